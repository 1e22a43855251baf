/-! ===== the reference: other numbers, a clause's word ===== -/
/-- another number read, where a fault may be -/
def NUP (I I' : jx_I) (m : Nat) (T : List Int) (x : PX Nat) (hi w : Int) (rv : Option Value) : Prop := (∃ r : Int, rv = some (jy r) ∧ (∀ v q, x.bind (pOth T hi w) = .ok (v, q) → r = v) ∧ 0 ≤ r ∧ r ≤ 999) ∧ RST I' m T ((x.bind (pOth T hi w)).bind (fun r => .ok r.2)) ∧ FO m [4, 5, 6] I I'
/-- the reference's number of a clause's word -/
def krf (k : Int) : Int := if k = 1 then 2 else if k = 2 then 1 else k
/-- GrievingCamelsModel.otherNumber -/
theorem cz_211g {V : jx_V} (hV : V.1.stackTraces = false) {X : jx_X} {R : jx_R} {I : jx_I} {a0 : Nat} {a1 : Int} {a2 : Int} {T : List Int} {x : PX Nat}
    (hM : MX X R a0) (hx : RST I a0 T x) (r_a1 : -1 ≤ a1 ∧ a1 ≤ 999) (r_a2 : -2147483648 ≤ a2 ∧ a2 < 2147483648)
    {QE : String → jx_I → Prop} : jc V 4 211 (0, 0) [.ref a0, jy a1, jy a2] X I R (fun rv I' => NUP I I' a0 T x a1 a2 rv) QE := by
  refine wm_211 hV (by omega) (by omega)  ?_
  unfold wz_211
  refine ⟨s_M_0 hM, ?_⟩
  refine ⟨fun hq1 => ?_, fun hq1 => ?_⟩
  · obtain ⟨s, rfl, p, hp, hs, hT⟩ := RST_5 hx hq1
    have h6 := hT.2.1
    have hsk : s ≤ T.length := by rw [← hs]; exact (skB_le hp).2
    have hss : skB T s = s := by rw [← hs]; exact skB_idem T p
    refine ⟨_, cz_207 hV hM hT hp, ?_⟩
    rintro _ I4 ⟨rfl, hT4, hF4⟩
    refine ⟨rfl, ?_⟩
    rw [hs] at hT4
    have h44 := hT4.1.2.1
    try simp only [-eq_self, h44]
    refine ⟨_, cz_210 hV hM hT4 hsk rfl (by omega) (by omega), ?_⟩
    rintro _ I8 ⟨⟨r9, rfl, hR8⟩, hA8⟩
    refine ⟨_, rfl, ?_⟩
    rw [hss] at hR8
    have hF8 := FO_trans (FO_mono hF4 (by decide)) hA8
    have hr9 : 0 ≤ r9 ∧ r9 ≤ 999 := by rcases hR8 with ⟨_, _, _, h, _⟩ | ⟨_, h, _⟩ | ⟨_, _, h, _⟩ <;> omega
    refine ⟨fun hq2 => ?_, fun hq2 => ?_⟩
    · obtain ⟨e, he1, he2⟩ : ∃ e, pNum T 0 a1 s = .error e ∧ RER I8 a0 T e := by
        rcases RNB_p hsk hR8 with ⟨q, h1, h2⟩ | h
        · obtain ⟨_, _, _, h⟩ := h2; exact absurd h.1.2.2.1 hq2
        · exact h
      have hO : pOth T a1 a2 s = .error e := by unfold pOth; rw [he1]; rfl
      exact ⟨⟨r9, rfl, fun v q h => (by rw [show (Except.ok s : PX Nat).bind (pOth T a1 a2) = _ from hO] at h; cases h), hr9⟩, by rw [show (Except.ok s : PX Nat).bind (pOth T a1 a2) = _ from hO]; exact he2, hF8⟩
    · have hok : dig T s ≠ [] ∧ 0 ≤ nval T s ∧ nval T s ≤ a1 ∧ r9 = nval T s ∧ RTX I8 a0 T (s + (dig T s).length : Nat) 0 (-1) := by
        rcases hR8 with h | ⟨_, _, q, h⟩ | ⟨_, _, _, q, h⟩
        · exact h
        · have := h.1.2.2.1; exfalso; omega
        · have := h.1.2.2.1; exfalso; omega
      have hT8 := hok.2.2.2.2
      have hpn := pNum_y (T := T) (lo := 0) (hi := a1) (s := s) hok.1 ⟨hok.2.1, hok.2.2.1⟩
      refine ⟨by omega, ?_⟩
      refine ⟨fun hq3 => ?_, fun hq3 => ?_⟩
      · have hO : pOth T a1 a2 s = .ok (nval T s, skB T (s + (dig T s).length)) := by unfold pOth; rw [hpn]; show (if nval T s = a2 then _ else _) = _; rw [if_neg (by omega)]
        exact ⟨⟨r9, rfl, fun v q h => (by rw [show (Except.ok s : PX Nat).bind (pOth T a1 a2) = _ from hO] at h; cases h; exact hok.2.2.2.1), hr9⟩, by rw [show (Except.ok s : PX Nat).bind (pOth T a1 a2) = _ from hO]; exact ⟨_, dig_le hsk, rfl, hT8⟩, hF8⟩
      · refine ⟨_, cz_208 hV hM hT8 (by omega) (by omega), ?_⟩
        rintro _ I13 ⟨rfl, hT13, hF13⟩
        refine ⟨rfl, ?_⟩
        rw [if_pos rfl, if_pos rfl] at hT13
        have hO : pOth T a1 a2 s = .error (2, s) := by unfold pOth; rw [hpn]; show (if nval T s = a2 then _ else _) = _; rw [if_pos (by omega)]
        exact ⟨⟨r9, rfl, fun v q h => (by rw [show (Except.ok s : PX Nat).bind (pOth T a1 a2) = _ from hO] at h; cases h), hr9⟩, by rw [show (Except.ok s : PX Nat).bind (pOth T a1 a2) = _ from hO]; exact ⟨show (1 : Int) ≤ 2 by decide, show (2 : Int) ≤ 3 by decide, _, hT13⟩, FO_trans hF8 (FO_mono hF13 (by decide))⟩
  · obtain ⟨e, rfl, he⟩ := RST_5n hx hq1
    exact ⟨⟨0, rfl, fun v q h => (by cases h), by decide, by decide⟩, he, FO_refl⟩
/-- GrievingCamelsModel.kindHere -/
theorem cz_220 {V : jx_V} (hV : V.1.stackTraces = false) {X : jx_X} {R : jx_R} {I : jx_I} {a0 : Nat} {T : List Int} {p s : Nat}
    (hM : MX X R a0) (hT : RTX I a0 T (p : Int) 0 (-1)) (hp : p ≤ T.length) (hs : skB T p = s)
    {QE : String → jx_I → Prop} : jc V 5 220 (0, 0) [.ref a0] X I R (fun rv I' => rv = some (jy (krf (kcl (wrd T s)))) ∧ RTX I' a0 T (s : Nat) 0 (-1) ∧ FO a0 [4] I I') QE := by
  have h6 := hT.2.1
  have hss : skB T s = s := by rw [← hs]; exact skB_idem T p
  have hsl : s ≤ T.length := by rw [← hs]; exact (skB_le hp).2
  refine wm_220 hV   ?_
  unfold wz_220
  refine ⟨s_M_0 hM, ?_⟩
  refine ⟨_, cz_214 (ws := sbi 1) hV hM hT hp hs rfl (by decide +kernel), ?_⟩
  rintro _ I4 ⟨rfl, hT4, hF4⟩
  refine ⟨_, rfl, ?_⟩
  refine ⟨by omega, ?_⟩
  refine ⟨fun hq1 => ?_, fun hq1 => ?_⟩
  · have c1 := bi_f hq1
    refine ⟨_, cz_214 (ws := sbi 3) hV hM hT4 hsl hss rfl (by decide +kernel), ?_⟩
    rintro _ I9 ⟨rfl, hT9, hF9⟩
    refine ⟨_, rfl, ?_⟩
    have hF9x := FO_trans hF4 hF9
    refine ⟨by omega, ?_⟩
    refine ⟨fun hq2 => ?_, fun hq2 => ?_⟩
    · have c3 := bi_f hq2
      refine ⟨_, cz_214 (ws := sbi 2) hV hM hT9 hsl hss rfl (by decide +kernel), ?_⟩
      rintro _ I14 ⟨rfl, hT14, hF14⟩
      refine ⟨_, rfl, ?_⟩
      have hF14x := FO_trans hF9x hF14
      refine ⟨by omega, ?_⟩
      refine ⟨fun hq3 => ?_, fun hq3 => ?_⟩
      · have c2 := bi_f hq3
        refine ⟨_, cz_214 (ws := sbi 4) hV hM hT14 hsl hss rfl (by decide +kernel), ?_⟩
        rintro _ I19 ⟨rfl, hT19, hF19⟩
        refine ⟨_, rfl, ?_⟩
        have hF19x := FO_trans hF14x hF19
        refine ⟨by omega, ?_⟩
        refine ⟨fun hq4 => ?_, fun hq4 => ?_⟩
        · have c4 := bi_f hq4
          refine ⟨_, cz_214 (ws := sbi 5) hV hM hT19 hsl hss rfl (by decide +kernel), ?_⟩
          rintro _ I24 ⟨rfl, hT24, hF24⟩
          refine ⟨_, rfl, ?_⟩
          have hF24x := FO_trans hF19x hF24
          refine ⟨by omega, ?_⟩
          refine ⟨fun hq5 => ?_, fun hq5 => ?_⟩
          · have c5 := bi_f hq5
            refine ⟨_, cz_214 (ws := sbi 6) hV hM hT24 hsl hss rfl (by decide +kernel), ?_⟩
            rintro _ I29 ⟨rfl, hT29, hF29⟩
            refine ⟨_, rfl, ?_⟩
            have hF29x := FO_trans hF24x hF29
            refine ⟨by omega, ?_⟩
            refine ⟨fun hq6 => ?_, fun hq6 => ?_⟩
            · have c6 := bi_f hq6
              refine ⟨_, cz_214 (ws := sbi 7) hV hM hT29 hsl hss rfl (by decide +kernel), ?_⟩
              rintro _ I34 ⟨rfl, hT34, hF34⟩
              refine ⟨_, rfl, ?_⟩
              have hF34x := FO_trans hF29x hF34
              refine ⟨by omega, ?_⟩
              refine ⟨fun hq7 => ?_, fun hq7 => ?_⟩
              · have c7 := bi_f hq7
                have hk : kcl (wrd T s) = -1 := by unfold kcl; rw [if_neg c1, if_neg c2, if_neg c3, if_neg c4, if_neg c5, if_neg c6, if_neg c7]
                exact ⟨by rw [hk]; rfl, hT34, hF34x⟩
              · have c7 := bi_t hq7
                have hk : kcl (wrd T s) = 6 := by unfold kcl; rw [if_neg c1, if_neg c2, if_neg c3, if_neg c4, if_neg c5, if_neg c6, if_pos c7]
                exact ⟨by rw [hk]; rfl, hT34, hF34x⟩
            · have c6 := bi_t hq6
              have hk : kcl (wrd T s) = 5 := by unfold kcl; rw [if_neg c1, if_neg c2, if_neg c3, if_neg c4, if_neg c5, if_pos c6]
              exact ⟨by rw [hk]; rfl, hT29, hF29x⟩
          · have c5 := bi_t hq5
            have hk : kcl (wrd T s) = 4 := by unfold kcl; rw [if_neg c1, if_neg c2, if_neg c3, if_neg c4, if_pos c5]
            exact ⟨by rw [hk]; rfl, hT24, hF24x⟩
        · have c4 := bi_t hq4
          have hk : kcl (wrd T s) = 3 := by unfold kcl; rw [if_neg c1, if_neg c2, if_neg c3, if_pos c4]
          exact ⟨by rw [hk]; rfl, hT19, hF19x⟩
      · have c2 := bi_t hq3
        have hk : kcl (wrd T s) = 1 := by unfold kcl; rw [if_neg c1, if_pos c2]
        exact ⟨by rw [hk]; rfl, hT14, hF14x⟩
    · have c3 := bi_t hq2
      have c2 : ¬ wrd T s = sbi 2 := by rw [c3]; decide +kernel
      have hk : kcl (wrd T s) = 2 := by unfold kcl; rw [if_neg c1, if_neg c2, if_pos c3]
      exact ⟨by rw [hk]; rfl, hT9, hF9x⟩
  · have c1 := bi_t hq1
    have hk : kcl (wrd T s) = 0 := by unfold kcl; rw [if_pos c1]
    exact ⟨by rw [hk]; rfl, hT4, hF4⟩
/-- GrievingCamelsModel.camelHere -/
theorem cz_221 {V : jx_V} (hV : V.1.stackTraces = false) {X : jx_X} {R : jx_R} {I : jx_I} {a0 : Nat} {T : List Int} {x : PX Nat} {n : Nat}
    (hM : MX X R a0) (hx : RST I a0 T x) (hm : (I (a0 + 3) 1).toInt = (n : Int)) (hn : n ≤ 10)
    {QE : String → jx_I → Prop} : jc V 4 221 (0, 0) [.ref a0] X I R (fun rv I' => NUG I I' a0 T x 0 ((n : Int) - 1) rv) QE := by
  have hm1 : (I (a0 + 3) (1 : Int).toNat).toInt = (n : Int) := hm
  refine wm_221 hV   ?_
  unfold wz_221
  refine ⟨s_M_0 hM, _, r_M_10 hM, ?_⟩
  try simp only [-eq_self, hm1]
  refine ⟨_, ⟨s_M_3 hM, by decide⟩, by omega, ?_⟩
  refine ⟨_, cz_210g hV hM hx (by omega) (by omega), ?_⟩
  rintro _ I9 ⟨⟨r9, rfl, h1⟩, h2, h3⟩
  refine ⟨_, rfl, ?_⟩
  exact ⟨⟨r9, rfl, h1⟩, h2, h3⟩
/-- the reference read so much of a land -/
def RLB (I : jx_I) (m : Nat) (L : LB) : Prop := ((I (m + 3) 0).toInt = (Ln L.1 : Int) ∧ (I (m + 3) 1).toInt = (Lm L.1 : Int)) ∧ (∀ p, p < Ln L.1 → (I (m + 5) p).toInt = Lk L.1 p) ∧ (∀ p q, p < 10 → q < 10 → (I (m + 14 + p) q).toInt = Lr L.1 p q) ∧ (∀ c, c < Lm L.1 → (I (m + 7) c).toInt = Lp L.1 c ∧ (I (m + 9) c).toInt = Lo L.1 c ∧ (I (m + 11) c).toInt = (Lf L.1 c : Int)) ∧ (∀ c p, c < Lm L.1 → p < 10 → (I (m + 36 + c) p).toInt = L.2 p c) ∧ RLW I m (Lc L.1)
/-- places of what the reference reads of a land -/
def RDo (m q : Nat) : Prop := q = m + 3 ∨ q = m + 5 ∨ q = m + 7 ∨ q = m + 9 ∨ q = m + 11 ∨ (m + 14 ≤ q ∧ q < m + 24) ∨ (m + 36 ≤ q ∧ q < m + 44) ∨ (m + 666 ≤ q ∧ q < m + 1286)
def KL : List Nat := [4, 5, 6, 7, 24, 25]
/-- only what is read of a land changes -/
def FLb (m : Nat) (I I' : jx_I) : Prop := (∀ q, q ≠ m → ¬ RDo m q → I' q = I q) ∧ ∀ k, k ∉ KL → I' m k = I m k
theorem FLb_refl {m : Nat} {I : jx_I} : FLb m I I := ⟨fun _ _ _ => rfl, fun _ _ => rfl⟩
theorem FLb_trans {m : Nat} {I I1 I2 : jx_I} (h : FLb m I I1) (h2 : FLb m I1 I2) : FLb m I I2 := ⟨fun q a b => (h2.1 q a b).trans (h.1 q a b), fun k hk => (h2.2 k hk).trans (h.2 k hk)⟩
theorem FLb_o {m : Nat} {ks : List Nat} {I I' : jx_I} (h : FO m ks I I') (hs : ∀ k ∈ ks, k ∈ KL) : FLb m I I' := ⟨fun q a _ => h.1 q a, fun k hk => h.2 k (fun h9 => hk (hs k h9))⟩
theorem FLb_f {m k : Nat} {x : Int32} {I I' : jx_I} (h : FLb m I I') (hk : k ∈ KL) : FLb m I (jx_u I' m k x) := ⟨fun q a b => by rw [jx_u_r _ _ _ a]; exact h.1 q a b, fun j hj => by rw [jx_u_k _ _ _ _ (by intro e; exact hj (e ▸ hk))]; exact h.2 j hj⟩
theorem FLb_u {m a k : Nat} {x : Int32} {I I' : jx_I} (h : FLb m I I') (ha : a ≠ m) (hr : RDo m a) : FLb m I (jx_u I' a k x) := ⟨fun q h1 h2 => by
  have hne : q ≠ a := by intro e; rw [e] at h2; exact h2 hr
  rw [jx_u_r _ _ _ hne]; exact h.1 q h1 h2, fun j hj => by
  have hne : m ≠ a := fun e => ha e.symm
  rw [jx_u_r _ _ _ hne]; exact h.2 j hj⟩
theorem FLb_l {m : Nat} {I I' : jx_I} (h : FLa m I I') : FLb m I I' := ⟨fun q a b => h.1 q a (by unfold RDo at b; omega), fun k hk => h.2 k (fun h2 => hk (by
  have : ∀ k ∈ [4, 5, 6, 24, 25], k ∈ KL := by decide
  exact this k h2))⟩
theorem RLB_o {m : Nat} {ks : List Nat} {I I' : jx_I} {L : LB} (h : RLB I m L) (hf : FO m ks I I') (hk : 24 ∉ ks) : RLB I' m L := by
  obtain ⟨h1, h2, h3, h4, h5, h6⟩ := h
  refine ⟨by rw [hf.1 _ (by omega)]; exact h1, fun p hp => by rw [hf.1 _ (by omega)]; exact h2 p hp, fun p q hp hq => by rw [hf.1 _ (by omega)]; exact h3 p q hp hq, fun c hc => by rw [hf.1 _ (by omega), hf.1 _ (by omega), hf.1 _ (by omega)]; exact h4 c hc, fun c p hc hp => by rw [hf.1 _ (by omega)]; exact h5 c p hc hp, RLW_o h6 hf hk⟩
theorem RLB_k {m k : Nat} {x : Int32} {I : jx_I} {L : LB} (h : RLB I m L) (hk : k ≠ 24) : RLB (jx_u I m k x) m L := RLB_o (ks := [k]) h ⟨fun q hq => by rw [jx_u_r _ _ _ hq], fun j hj => jx_u_k _ _ _ _ (by simpa using hj)⟩ (by simpa using fun h => hk h.symm)
