/-! ===== the reference reads values ===== -/
/-- fields ks; steps from n, tests from t, values from v on may change -/
def FP (m : Nat) (ks : List Nat) (n t v : Nat) (I I' : jx_I) : Prop := (∀ q, q ≠ m → (q < m + 1493 + n ∨ m + 1613 ≤ q) → (q < m + 1735 + t ∨ m + 1855 ≤ q) → (q < m + 2017 + v ∨ m + 2177 ≤ q) → I' q = I q) ∧ ∀ k, k ∉ ks → I' m k = I m k
theorem FP_refl {m : Nat} {ks : List Nat} {n t v : Nat} {I : jx_I} : FP m ks n t v I I := ⟨fun _ _ _ _ _ => rfl, fun _ _ => rfl⟩
theorem FP_trans {m : Nat} {ks : List Nat} {n t v : Nat} {I I1 I2 : jx_I} (h : FP m ks n t v I I1) (h2 : FP m ks n t v I1 I2) : FP m ks n t v I I2 := ⟨fun q a b c d => (h2.1 q a b c d).trans (h.1 q a b c d), fun k hk => (h2.2 k hk).trans (h.2 k hk)⟩
theorem FP_mono {m : Nat} {ks ks2 : List Nat} {n t v n2 t2 v2 : Nat} {I I' : jx_I} (h : FP m ks n t v I I') (hs : ∀ k ∈ ks, k ∈ ks2) (h1 : n2 ≤ n) (h2 : t2 ≤ t) (h3 : v2 ≤ v) : FP m ks2 n2 t2 v2 I I' := ⟨fun q a b c d => h.1 q a (by omega) (by omega) (by omega), fun k hk => h.2 k (fun h9 => hk (hs k h9))⟩
theorem FP_o {m : Nat} {ks ks2 : List Nat} {n t v : Nat} {I I' : jx_I} (h : FO m ks I I') (hs : ∀ k ∈ ks, k ∈ ks2) : FP m ks2 n t v I I' := ⟨fun q a _ _ _ => h.1 q a, fun k hk => h.2 k (fun h9 => hk (hs k h9))⟩
theorem FP_f {m : Nat} {ks : List Nat} {n t v : Nat} {I I' : jx_I} {k : Nat} {x : Int32} (h : FP m ks n t v I I') (hk : k ∈ ks) : FP m ks n t v I (jx_u I' m k x) := ⟨fun q a b c d => by rw [jx_u_r _ _ _ a]; exact h.1 q a b c d, fun j hj => by rw [jx_u_k _ _ _ _ (by intro e; exact hj (e ▸ hk))]; exact h.2 j hj⟩
theorem FP_v {m : Nat} {ks : List Nat} {n t v : Nat} {I I' : jx_I} {i k : Nat} {x : Int32} (h : FP m ks n t v I I') (hi : v ≤ i ∧ i < 160) : FP m ks n t v I (jx_u I' (m + 2017 + i) k x) := ⟨fun q a b c d => by rw [jx_u_r _ _ _ (by omega)]; exact h.1 q a b c d, fun j hj => by rw [jx_u_r _ _ _ (by omega)]; exact h.2 j hj⟩
theorem FP_t {m : Nat} {ks : List Nat} {n t v : Nat} {I I' : jx_I} {i k : Nat} {x : Int32} (h : FP m ks n t v I I') (hi : t ≤ i ∧ i < 120) : FP m ks n t v I (jx_u I' (m + 1735 + i) k x) := ⟨fun q a b c d => by rw [jx_u_r _ _ _ (by omega)]; exact h.1 q a b c d, fun j hj => by rw [jx_u_r _ _ _ (by omega)]; exact h.2 j hj⟩
theorem FP_s {m : Nat} {ks : List Nat} {n t v : Nat} {I I' : jx_I} {i k : Nat} {x : Int32} (h : FP m ks n t v I I') (hi : n ≤ i ∧ i < 120) : FP m ks n t v I (jx_u I' (m + 1493 + i) k x) := ⟨fun q a b c d => by rw [jx_u_r _ _ _ (by omega)]; exact h.1 q a b c d, fun j hj => by rw [jx_u_r _ _ _ (by omega)]; exact h.2 j hj⟩
theorem RTX_w {I : jx_I} {m : Nat} {T : List Int} {p fk fa : Int} {q k : Nat} {x : Int32} (h : RTX I m T p fk fa) (hq : q ≠ m ∧ q ≠ m + 1) : RTX (jx_u I q k x) m T p fk fa := ⟨⟨by rw [jx_u_r _ _ _ (by omega)]; exact h.1.1, by rw [jx_u_r _ _ _ (by omega)]; exact h.1.2.1, by rw [jx_u_r _ _ _ (by omega)]; exact h.1.2.2.1, by rw [jx_u_r _ _ _ (by omega)]; exact h.1.2.2.2⟩, h.2.1, fun j y hj => by rw [jx_u_r _ _ _ (by omega)]; exact h.2.2 j y hj⟩
theorem RTX_k {I : jx_I} {m : Nat} {T : List Int} {p fk fa : Int} {k : Nat} {x : Int32} (h : RTX I m T p fk fa) (hk : k ≠ 2 ∧ k ≠ 4 ∧ k ≠ 5 ∧ k ≠ 6) : RTX (jx_u I m k x) m T p fk fa := ⟨⟨by rw [jx_u_k _ _ _ _ (by omega)]; exact h.1.1, by rw [jx_u_k _ _ _ _ (by omega)]; exact h.1.2.1, by rw [jx_u_k _ _ _ _ (by omega)]; exact h.1.2.2.1, by rw [jx_u_k _ _ _ _ (by omega)]; exact h.1.2.2.2⟩, h.2.1, fun j y hj => by rw [jx_u_r _ _ _ (by omega)]; exact h.2.2 j y hj⟩
/-- the reference found a fault -/
def RER (I : jx_I) (m : Nat) (T : List Int) (e : Int × Nat) : Prop := 1 ≤ e.1 ∧ e.1 ≤ 3 ∧ ∃ p : Nat, RTX I m T (p : Int) e.1 (e.2 : Int)
/-- the reference stands ahead of q, blanks between -/
def ROK (I : jx_I) (m : Nat) (T : List Int) (q : Nat) : Prop := ∃ p : Nat, p ≤ T.length ∧ skB T p = q ∧ RTX I m T (p : Int) 0 (-1)
theorem RER_w {I : jx_I} {m : Nat} {T : List Int} {e : Int × Nat} {q k : Nat} {x : Int32} (h : RER I m T e) (hq : q ≠ m ∧ q ≠ m + 1) : RER (jx_u I q k x) m T e := by
  obtain ⟨h1, h2, p, h⟩ := h
  exact ⟨h1, h2, p, RTX_w h hq⟩
theorem RER_k {I : jx_I} {m : Nat} {T : List Int} {e : Int × Nat} {k : Nat} {x : Int32} (h : RER I m T e) (hk : k ≠ 2 ∧ k ≠ 4 ∧ k ≠ 5 ∧ k ≠ 6) : RER (jx_u I m k x) m T e := by
  obtain ⟨h1, h2, p, h⟩ := h
  exact ⟨h1, h2, p, RTX_k h hk⟩
theorem ROK_w {I : jx_I} {m : Nat} {T : List Int} {e : Nat} {q k : Nat} {x : Int32} (h : ROK I m T e) (hq : q ≠ m ∧ q ≠ m + 1) : ROK (jx_u I q k x) m T e := by
  obtain ⟨p, h1, h2, h⟩ := h
  exact ⟨p, h1, h2, RTX_w h hq⟩
theorem ROK_k {I : jx_I} {m : Nat} {T : List Int} {e : Nat} {k : Nat} {x : Int32} (h : ROK I m T e) (hk : k ≠ 2 ∧ k ≠ 4 ∧ k ≠ 5 ∧ k ≠ 6) : ROK (jx_u I m k x) m T e := by
  obtain ⟨p, h1, h2, h⟩ := h
  exact ⟨p, h1, h2, RTX_k h hk⟩
theorem pNum_e1 {T : List Int} {lo hi : Int} {s : Nat} (h : dig T s = []) : pNum T lo hi s = .error (1, s) := by unfold pNum; rw [if_pos h]
theorem pNum_e2 {T : List Int} {lo hi : Int} {s : Nat} (h : dig T s ≠ []) (h2 : ¬ (lo ≤ nval T s ∧ nval T s ≤ hi)) : pNum T lo hi s = .error (2, s) := by unfold pNum; rw [if_neg h, if_neg h2]
theorem pNum_y {T : List Int} {lo hi : Int} {s : Nat} (h : dig T s ≠ []) (h2 : lo ≤ nval T s ∧ nval T s ≤ hi) : pNum T lo hi s = .ok (nval T s, skB T (s + (dig T s).length)) := by unfold pNum; rw [if_neg h, if_pos h2]
theorem RNB_p {I : jx_I} {m : Nat} {T : List Int} {s : Nat} {lo hi r : Int} (hs : s ≤ T.length) (h : RNB I m T s lo hi r (-1)) : (∃ q, pNum T lo hi s = .ok (r, q) ∧ ROK I m T q) ∨ (∃ e, pNum T lo hi s = .error e ∧ RER I m T e) := by
  rcases h with ⟨h1, h2, h3, rfl, h5⟩ | ⟨h1, h2, q, h3⟩ | ⟨h1, h2, h3, q, h4⟩
  · exact Or.inl ⟨_, pNum_y h1 ⟨h2, h3⟩, _, dig_le hs, rfl, h5⟩
  · exact Or.inr ⟨_, pNum_e1 h1, show (1 : Int) ≤ 1 by decide, show (1 : Int) ≤ 3 by decide, q, h3⟩
  · exact Or.inr ⟨_, pNum_e2 h1 h2, show (1 : Int) ≤ 2 by decide, show (2 : Int) ≤ 3 by decide, q, h4⟩
theorem pVal_0 {T : List Int} {lm p : Nat} (h : kvl (wrd T p) = 0) : pVal T lm p = (pNum T 0 999 p).bind (fun r => .ok (0, r)) := if_pos h
theorem pVal_7 {T : List Int} {lm p : Nat} (h : kvl (wrd T p) = 7) : pVal T lm p = (pNum T 0 ((lm : Int) - 1) (skB T (p + (wrd T p).length))).bind (fun r => .ok (7, r)) := by unfold pVal; rw [if_neg (by omega), if_pos h]
theorem pVal_k {T : List Int} {lm p : Nat} (h : kvl (wrd T p) ≠ 0) (h7 : kvl (wrd T p) ≠ 7) : pVal T lm p = .ok (kvl (wrd T p), 0, skB T (p + (wrd T p).length)) := by unfold pVal; rw [if_neg h, if_neg h7]
/-- the reference's i-th value that was read -/
def RV1 (I : jx_I) (m i : Nat) (e : VA) : Prop := (I (m + 2017 + i) 0).toInt = e.1 ∧ (I (m + 2017 + i) 1).toInt = (e.2.1 : Int) ∧ (I (m + 2017 + i) 2).toInt = e.2.2
theorem bd3 {a b c : Int} (h : (1 : Int) ≤ a ∧ a ≤ b) (h2 : b ≤ c) : 1 ≤ a ∧ a ≤ c := by omega
/-- GrievingCamelsModel.takesSign -/
theorem cz_218e {V : jx_V} (hV : V.1.stackTraces = false) {X : jx_X} {R : jx_R} {I : jx_I} {a0 : Nat} {a1 : Int} {T : List Int} {p s : Nat}
    (hM : MX X R a0) (hT : RTX I a0 T (p : Int) 0 (-1)) (hp : p ≤ T.length) (hs : skB T p = s) (r_a1 : 0 ≤ a1 ∧ a1 < 2147483648)
    {QE : String → jx_I → Prop} : jc V 3 218 (0, 0) [.ref a0, jy a1] X I R (fun rv I' => (∃ r : Int, rv = some (jy r) ∧ ((r = 1 ∧ tat T s = a1 ∧ RTX I' a0 T (s + 1 : Nat) 0 (-1)) ∨ (r = 0 ∧ tat T s ≠ a1 ∧ RTX I' a0 T (s : Nat) 0 (-1)))) ∧ FO a0 [4] I I') QE := by
  have h6 := hT.2.1
  have hss : skB T s = s := by rw [← hs]; exact skB_idem T p
  have hsl : s ≤ T.length := by rw [← hs]; exact (skB_le hp).2
  have h5 := hT.1.2.2.1
  have hrg := RTX_r hT s
  refine wm_218 hV (by omega)  (fun J30 hJJ => ?_)
  have hJ30 := hJJ
  unfold wz_218
  refine ⟨s_M_0 hM, ?_⟩
  refine ⟨fun hq1 => ?_, fun hq1 => ?_⟩
  · refine ⟨_, cz_207 hV hM hT hp, ?_⟩
    rintro _ I4 ⟨rfl, hT4, hF4⟩
    refine ⟨rfl, ?_⟩
    rw [hs] at hT4
    have h44 := hT4.1.2.1
    try simp only [-eq_self, h44]
    refine ⟨_, cz_206 (i := s) hV hM hT4 rfl (by omega), ?_⟩
    rintro _ I8 ⟨rfl, e9⟩; replace e9 := e9.symm; subst e9
    refine ⟨_, rfl, ?_⟩
    refine ⟨by omega, ?_⟩
    refine ⟨fun hq2 => ?_, fun hq2 => ?_⟩
    · refine hJ30 _ _ ?_
      unfold wz_218_30
      refine ⟨by omega, ?_⟩
      refine ⟨fun hq3 => ?_, fun hq3 => ?_⟩
      · refine ⟨by omega, ?_⟩
        exact ⟨⟨_, rfl, Or.inr ⟨rfl, hq2, hT4⟩⟩, FO_mono hF4 (by decide)⟩
      · refine ⟨s_M_0 hM, ?_⟩
        intro I14 e_I14; subst e_I14
        refine ⟨by omega, ?_⟩
        exact absurd rfl hq3
    · refine hJ30 _ _ ?_
      unfold wz_218_30
      refine ⟨by omega, ?_⟩
      refine ⟨fun hq4 => ?_, fun hq4 => ?_⟩
      · refine ⟨by omega, ?_⟩
        exact absurd hq4 (by decide)
      · refine ⟨s_M_0 hM, ?_⟩
        intro I14 e_I14; subst e_I14
        refine ⟨by omega, ?_⟩
        rw [h44]
        exact ⟨⟨_, rfl, Or.inl ⟨rfl, by omega, RTX_4 hT4 (by omega)⟩⟩, FO_f hF4 (by decide)⟩
  · exact absurd (by omega : (I a0 5).toInt = 0) hq1
/-- GrievingCamelsModel.stepHere -/
theorem cz_301 {V : jx_V} (hV : V.1.stackTraces = false) {X : jx_X} {R : jx_R} {I : jx_I} {a0 : Nat} {T : List Int} {p s : Nat}
    (hM : MX X R a0) (hT : RTX I a0 T (p : Int) 0 (-1)) (hp : p ≤ T.length) (hs : skB T p = s)
    {QE : String → jx_I → Prop} : jc V 5 301 (0, 0) [.ref a0] X I R (fun rv I' => rv = some (jy (kst (wrd T s))) ∧ RTX I' a0 T (s : Nat) 0 (-1) ∧ FO a0 [4] I I') QE := by
  have h6 := hT.2.1
  have hss : skB T s = s := by rw [← hs]; exact skB_idem T p
  have hsl : s ≤ T.length := by rw [← hs]; exact (skB_le hp).2
  refine wm_301 hV   ?_
  unfold wz_301
  refine ⟨s_M_0 hM, ?_⟩
  refine ⟨_, cz_214 (ws := sbi 16) hV hM hT hp hs rfl (by decide +kernel), ?_⟩
  rintro _ I4 ⟨rfl, hT4, hF4⟩
  refine ⟨_, rfl, ?_⟩
  refine ⟨by omega, ?_⟩
  refine ⟨fun hq1 => ?_, fun hq1 => ?_⟩
  · have c16 := bi_f hq1
    refine ⟨_, cz_214 (ws := sbi 17) hV hM hT4 hsl hss rfl (by decide +kernel), ?_⟩
    rintro _ I9 ⟨rfl, hT9, hF9⟩
    refine ⟨_, rfl, ?_⟩
    have hF9x := FO_trans hF4 hF9
    refine ⟨by omega, ?_⟩
    refine ⟨fun hq2 => ?_, fun hq2 => ?_⟩
    · have c17 := bi_f hq2
      refine ⟨_, cz_214 (ws := sbi 18) hV hM hT9 hsl hss rfl (by decide +kernel), ?_⟩
      rintro _ I14 ⟨rfl, hT14, hF14⟩
      refine ⟨_, rfl, ?_⟩
      have hF14x := FO_trans hF9x hF14
      refine ⟨by omega, ?_⟩
      refine ⟨fun hq3 => ?_, fun hq3 => ?_⟩
      · have c18 := bi_f hq3
        refine ⟨_, cz_214 (ws := sbi 19) hV hM hT14 hsl hss rfl (by decide +kernel), ?_⟩
        rintro _ I19 ⟨rfl, hT19, hF19⟩
        refine ⟨_, rfl, ?_⟩
        have hF19x := FO_trans hF14x hF19
        refine ⟨by omega, ?_⟩
        refine ⟨fun hq4 => ?_, fun hq4 => ?_⟩
        · have c19 := bi_f hq4
          refine ⟨_, cz_214 (ws := sbi 20) hV hM hT19 hsl hss rfl (by decide +kernel), ?_⟩
          rintro _ I24 ⟨rfl, hT24, hF24⟩
          refine ⟨_, rfl, ?_⟩
          have hF24x := FO_trans hF19x hF24
          refine ⟨by omega, ?_⟩
          refine ⟨fun hq5 => ?_, fun hq5 => ?_⟩
          · have c20 := bi_f hq5
            refine ⟨_, cz_214 (ws := sbi 21) hV hM hT24 hsl hss rfl (by decide +kernel), ?_⟩
            rintro _ I29 ⟨rfl, hT29, hF29⟩
            refine ⟨_, rfl, ?_⟩
            have hF29x := FO_trans hF24x hF29
            refine ⟨by omega, ?_⟩
            refine ⟨fun hq6 => ?_, fun hq6 => ?_⟩
            · have c21 := bi_f hq6
              refine ⟨_, cz_214 (ws := sbi 22) hV hM hT29 hsl hss rfl (by decide +kernel), ?_⟩
              rintro _ I34 ⟨rfl, hT34, hF34⟩
              refine ⟨_, rfl, ?_⟩
              have hF34x := FO_trans hF29x hF34
              refine ⟨by omega, ?_⟩
              refine ⟨fun hq7 => ?_, fun hq7 => ?_⟩
              · have c22 := bi_f hq7
                refine ⟨_, cz_214 (ws := sbi 23) hV hM hT34 hsl hss rfl (by decide +kernel), ?_⟩
                rintro _ I39 ⟨rfl, hT39, hF39⟩
                refine ⟨_, rfl, ?_⟩
                have hF39x := FO_trans hF34x hF39
                refine ⟨by omega, ?_⟩
                refine ⟨fun hq8 => ?_, fun hq8 => ?_⟩
                · have c23 := bi_f hq8
                  refine ⟨_, cz_214 (ws := sbi 24) hV hM hT39 hsl hss rfl (by decide +kernel), ?_⟩
                  rintro _ I44 ⟨rfl, hT44, hF44⟩
                  refine ⟨_, rfl, ?_⟩
                  have hF44x := FO_trans hF39x hF44
                  refine ⟨by omega, ?_⟩
                  refine ⟨fun hq9 => ?_, fun hq9 => ?_⟩
                  · have c24 := bi_f hq9
                    refine ⟨_, cz_214 (ws := sbi 25) hV hM hT44 hsl hss rfl (by decide +kernel), ?_⟩
                    rintro _ I49 ⟨rfl, hT49, hF49⟩
                    refine ⟨_, rfl, ?_⟩
                    have hF49x := FO_trans hF44x hF49
                    refine ⟨by omega, ?_⟩
                    refine ⟨fun hq10 => ?_, fun hq10 => ?_⟩
                    · have c25 := bi_f hq10
                      exact ⟨by unfold kst; rw [if_neg c16, if_neg c17, if_neg c18, if_neg c19, if_neg c20, if_neg c21, if_neg c22, if_neg c23, if_neg c24, if_neg c25], hT49, hF49x⟩
                    · have c25 := bi_t hq10
                      exact ⟨by unfold kst; rw [if_neg c16, if_neg c17, if_neg c18, if_neg c19, if_neg c20, if_neg c21, if_neg c22, if_neg c23, if_neg c24, if_pos c25], hT49, hF49x⟩
                  · have c24 := bi_t hq9
                    exact ⟨by unfold kst; rw [if_neg c16, if_neg c17, if_neg c18, if_neg c19, if_neg c20, if_neg c21, if_neg c22, if_neg c23, if_pos c24], hT44, hF44x⟩
                · have c23 := bi_t hq8
                  exact ⟨by unfold kst; rw [if_neg c16, if_neg c17, if_neg c18, if_neg c19, if_neg c20, if_neg c21, if_neg c22, if_pos c23], hT39, hF39x⟩
              · have c22 := bi_t hq7
                exact ⟨by unfold kst; rw [if_neg c16, if_neg c17, if_neg c18, if_neg c19, if_neg c20, if_neg c21, if_pos c22], hT34, hF34x⟩
            · have c21 := bi_t hq6
              exact ⟨by unfold kst; rw [if_neg c16, if_neg c17, if_neg c18, if_neg c19, if_neg c20, if_pos c21], hT29, hF29x⟩
          · have c20 := bi_t hq5
            exact ⟨by unfold kst; rw [if_neg c16, if_neg c17, if_neg c18, if_neg c19, if_pos c20], hT24, hF24x⟩
        · have c19 := bi_t hq4
          exact ⟨by unfold kst; rw [if_neg c16, if_neg c17, if_neg c18, if_pos c19], hT19, hF19x⟩
      · have c18 := bi_t hq3
        exact ⟨by unfold kst; rw [if_neg c16, if_neg c17, if_pos c18], hT14, hF14x⟩
    · have c17 := bi_t hq2
      exact ⟨by unfold kst; rw [if_neg c16, if_pos c17], hT9, hF9x⟩
  · have c16 := bi_t hq1
    exact ⟨by unfold kst; rw [if_pos c16], hT4, hF4⟩
/-- the reference's state in a text: ahead of a place, or a fault -/
def RST (I : jx_I) (m : Nat) (T : List Int) : PX Nat → Prop
  | .ok s => ROK I m T s
  | .error e => RER I m T e
theorem RST_w {I : jx_I} {m : Nat} {T : List Int} {e : PX Nat} {q k : Nat} {x : Int32} (h : RST I m T e) (hq : q ≠ m ∧ q ≠ m + 1) : RST (jx_u I q k x) m T e := by
  cases e with
  | ok s => exact ROK_w h hq
  | error e => exact RER_w h hq
theorem RST_k {I : jx_I} {m : Nat} {T : List Int} {e : PX Nat} {k : Nat} {x : Int32} (h : RST I m T e) (hk : k ≠ 2 ∧ k ≠ 4 ∧ k ≠ 5 ∧ k ≠ 6) : RST (jx_u I m k x) m T e := by
  cases e with
  | ok s => exact ROK_k h hk
  | error e => exact RER_k h hk
theorem RST_5 {I : jx_I} {m : Nat} {T : List Int} {x : PX Nat} (h : RST I m T x) (h5 : (I m 5).toInt = 0) : ∃ s, x = .ok s ∧ ROK I m T s := by
  cases x with
  | ok s => exact ⟨s, rfl, h⟩
  | error e =>
    obtain ⟨h1, _, p, hT⟩ := h
    have := hT.1.2.2.1
    omega
theorem RST_5n {I : jx_I} {m : Nat} {T : List Int} {x : PX Nat} (h : RST I m T x) (h5 : (I m 5).toInt ≠ 0) : ∃ e, x = .error e ∧ RER I m T e := by
  cases x with
  | error e => exact ⟨e, rfl, h⟩
  | ok s =>
    obtain ⟨p, _, _, hT⟩ := h
    exact absurd hT.1.2.2.1 h5
theorem ROK_s {I : jx_I} {m : Nat} {T : List Int} {s : Nat} (h : ROK I m T s) : s ≤ T.length ∧ skB T s = s := by
  obtain ⟨p, hp, hs, _⟩ := h
  rw [← hs]
  exact ⟨(skB_le hp).2, skB_idem T p⟩
def pSgn (T : List Int) (c : Int) (s : Nat) : PX Nat := if tat T s = c then .ok (skB T (s + 1)) else .error (1, s)
/-- GrievingCamelsModel.blanks -/
theorem cz_207h {V : jx_V} (hV : V.1.stackTraces = false) {X : jx_X} {R : jx_R} {I : jx_I} {a0 : Nat} {T : List Int} {p : Nat} {fk fa : Int}
    (hM : MX X R a0) (hT : RTX I a0 T (p : Int) fk fa)
    {QE : String → jx_I → Prop} : jc V 2 207 (0, 0) [.ref a0] X I R (fun rv I' => rv = none ∧ RTX I' a0 T (skB T p : Nat) fk fa ∧ FO a0 [4] I I') QE := by
  have h6 := hT.2.1
  have hpr : (p : Int) < 2147483648 := by have := jy_rng (I a0 4); rw [hT.1.2.1] at this; exact this.2
  refine wm_207 hV   (fun J0 hJJ => ?_)
  have hJ0 := hJJ
  unfold wz_207
  have L0 : ∀ (n0 : Nat)  (K : jx_I), n0 = ((T.length : Int) - (K a0 4).toInt).toNat → (∃ q : Nat, (K a0 4).toInt = (q : Int) ∧ p ≤ q ∧ (q ≤ T.length ∨ q = p) ∧ skB T p = skB T q ∧ RTX K a0 T (q : Int) fk fa ∧ FO a0 [4] I K) → J0  K := by
    intro n0
    induction n0 using Nat.strongRecOn with
    | ind n0 ih0 =>
    intro  K hn0 hI0
    obtain ⟨q, h4, hpq, hq, hs, hTK, hF⟩ := hI0
    have hrg := RTX_r hTK q
    refine hJ0 _ ?_
    unfold wz_207_0
    refine ⟨s_M_0 hM, ?_⟩
    refine ⟨_, cz_206 (i := q) hV hM hTK h4 (by omega), ?_⟩
    rintro _ I4 ⟨rfl, e9⟩; replace e9 := e9.symm; subst e9
    refine ⟨_, rfl, ?_⟩
    refine ⟨by omega, ?_⟩
    refine ⟨fun hq1 => ?_, fun hq1 => ?_⟩
    · exact ⟨rfl, by rw [hs, skB_0 hq1]; exact hTK, hF⟩
    · have hql : q < T.length := by
        rcases Nat.lt_or_ge q T.length with e | e
        · exact e
        · rw [tat_ge e] at hq1; exact absurd hq1 (by decide)
      simp only [-eq_self, h4]
      have h9 : (jx_u K a0 4 (Int32.ofInt ((q : Int) + 1)) a0 4).toInt = ((q + 1 : Nat) : Int) := by rw [jx_u_s]; exact jy_toInt (by omega)
      intro I7 e_I7; subst e_I7
      exact ih0 _ (by omega) _ rfl (⟨q + 1, h9, by omega, Or.inl (by omega), by rw [hs, skB_1 (by omega)], RTX_4 hTK (by omega), FO_f hF (by decide)⟩)
  exact L0 _ _ rfl (⟨p, hT.1.2.1, by omega, Or.inr rfl, rfl, hT, FO_refl⟩)
/-- GrievingCamelsModel.takesSign -/
theorem cz_218g {V : jx_V} (hV : V.1.stackTraces = false) {X : jx_X} {R : jx_R} {I : jx_I} {a0 : Nat} {a1 : Int} {T : List Int} {x : PX Nat}
    (hM : MX X R a0) (hx : RST I a0 T x) (r_a1 : 0 ≤ a1 ∧ a1 < 2147483648)
    {QE : String → jx_I → Prop} : jc V 3 218 (0, 0) [.ref a0, jy a1] X I R (fun rv I' => (∃ r : Int, rv = some (jy r) ∧ ((r = 1 ∧ ∃ s, x = .ok s ∧ tat T s = a1 ∧ ROK I' a0 T (skB T (s + 1))) ∨ (r = 0 ∧ (∀ s, x = .ok s → tat T s ≠ a1 ∧ RTX I' a0 T (s : Nat) 0 (-1)) ∧ RST I' a0 T x))) ∧ FO a0 [4] I I') QE := by
  refine wm_218 hV (by omega)  (fun J30 hJJ => ?_)
  have hJ30 := hJJ
  unfold wz_218
  refine ⟨s_M_0 hM, ?_⟩
  refine ⟨fun hq1 => ?_, fun hq1 => ?_⟩
  · obtain ⟨s, rfl, p, hp, hs, hT⟩ := RST_5 hx hq1
    have hsl : s ≤ T.length := by rw [← hs]; exact (skB_le hp).2
    have h6 := hT.2.1
    have hrg := RTX_r hT s
    refine ⟨_, cz_207 hV hM hT hp, ?_⟩
    rintro _ I4 ⟨rfl, hT4, hF4⟩
    refine ⟨rfl, ?_⟩
    rw [hs] at hT4
    have h44 := hT4.1.2.1
    try simp only [-eq_self, h44]
    refine ⟨_, cz_206 (i := s) hV hM hT4 rfl (by omega), ?_⟩
    rintro _ I8 ⟨rfl, e9⟩; replace e9 := e9.symm; subst e9
    refine ⟨_, rfl, ?_⟩
    refine ⟨by omega, ?_⟩
    refine ⟨fun hq2 => ?_, fun hq2 => ?_⟩
    · refine hJ30 _ _ ?_
      unfold wz_218_30
      refine ⟨by omega, ?_⟩
      refine ⟨fun hq3 => ?_, fun hq3 => ?_⟩
      · refine ⟨by omega, ?_⟩
        exact ⟨⟨_, rfl, Or.inr ⟨rfl, fun s2 h2 => (by cases h2; exact ⟨hq2, hT4⟩), ⟨s, hsl, by rw [← hs]; exact skB_idem T p, hT4⟩⟩⟩, FO_mono hF4 (by decide)⟩
      · refine ⟨s_M_0 hM, ?_⟩
        intro I14 e_I14; subst e_I14
        refine ⟨by omega, ?_⟩
        exact absurd rfl hq3
    · refine hJ30 _ _ ?_
      unfold wz_218_30
      refine ⟨by omega, ?_⟩
      refine ⟨fun hq4 => ?_, fun hq4 => ?_⟩
      · refine ⟨by omega, ?_⟩
        exact absurd hq4 (by decide)
      · refine ⟨s_M_0 hM, ?_⟩
        intro I14 e_I14; subst e_I14
        refine ⟨by omega, ?_⟩
        rw [h44]
        exact ⟨⟨_, rfl, Or.inl ⟨rfl, s, rfl, by omega, ⟨s + 1, by have := tat_in (T := T) (p := s) rfl (by omega); omega, rfl, RTX_4 hT4 (by omega)⟩⟩⟩, FO_f hF4 (by decide)⟩
  · obtain ⟨e, rfl, he⟩ := RST_5n hx hq1
    exact ⟨⟨_, rfl, Or.inr ⟨rfl, fun s2 h2 => (by cases h2), he⟩⟩, FO_refl⟩
/-- GrievingCamelsModel.sign -/
theorem cz_217g {V : jx_V} (hV : V.1.stackTraces = false) {X : jx_X} {R : jx_R} {I : jx_I} {a0 : Nat} {a1 : Int} {T : List Int} {x : PX Nat}
    (hM : MX X R a0) (hx : RST I a0 T x) (r_a1 : 0 ≤ a1 ∧ a1 < 2147483648)
    {QE : String → jx_I → Prop} : jc V 3 217 (0, 0) [.ref a0, jy a1] X I R (fun rv I' => rv = none ∧ RST I' a0 T (x.bind (pSgn T a1)) ∧ FO a0 [4, 5, 6] I I') QE := by
  refine wm_217 hV (by omega)  ?_
  unfold wz_217
  refine ⟨s_M_0 hM, ?_⟩
  refine ⟨fun hq1 => ?_, fun hq1 => ?_⟩
  · obtain ⟨s, rfl, p, hp, hs, hT⟩ := RST_5 hx hq1
    have hsl : s ≤ T.length := by rw [← hs]; exact (skB_le hp).2
    have h6 := hT.2.1
    have hrg := RTX_r hT s
    refine ⟨_, cz_207 hV hM hT hp, ?_⟩
    rintro _ I4 ⟨rfl, hT4, hF4⟩
    refine ⟨rfl, ?_⟩
    rw [hs] at hT4
    have h44 := hT4.1.2.1
    try simp only [-eq_self, h44]
    refine ⟨_, cz_206 (i := s) hV hM hT4 rfl (by omega), ?_⟩
    rintro _ I8 ⟨rfl, e9⟩; replace e9 := e9.symm; subst e9
    refine ⟨_, rfl, ?_⟩
    refine ⟨by omega, ?_⟩
    refine ⟨fun hq2 => ?_, fun hq2 => ?_⟩
    · refine ⟨_, cz_208 hV hM hT4 (by omega) (by omega), ?_⟩
      rintro _ I13 ⟨rfl, hT13, hF13⟩
      refine ⟨rfl, ?_⟩
      rw [if_pos rfl, if_pos rfl, h44] at hT13
      refine ⟨rfl, ?_, FO_trans (FO_mono hF4 (by decide)) (FO_mono hF13 (by decide))⟩
      show RST _ a0 T (pSgn T a1 s)
      unfold pSgn
      rw [if_neg hq2]
      exact ⟨show (1 : Int) ≤ 1 by decide, show (1 : Int) ≤ 3 by decide, s, hT13⟩
    · intro I15 e_I15; subst e_I15
      refine ⟨rfl, ?_, FO_f (FO_mono hF4 (by decide)) (by decide)⟩
      rw [h44]
      show RST _ a0 T (pSgn T a1 s)
      unfold pSgn
      rw [if_pos (by omega)]
      exact ⟨s + 1, by have := tat_in (T := T) (p := s) rfl (by omega); omega, rfl, RTX_4 hT4 (by omega)⟩
  · obtain ⟨e, rfl, he⟩ := RST_5n hx hq1
    exact ⟨rfl, he, FO_refl⟩
