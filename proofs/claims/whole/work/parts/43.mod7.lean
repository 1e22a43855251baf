/-! ===== the reference: undone, notes laid and cleared ===== -/
/-- GrievingCamelsModel.undo -/
theorem cz_267 {V : jx_V} (hV : V.1.stackTraces = false) {X : jx_X} {R : jx_R} {I : jx_I} {a0 : Nat} {l : LT} {c : CT} 
    (hM : MX X R a0) (hX : MSX I a0 l c) (hW : WT l) (hC : WC l c) 
    {QE : String → jx_I → Prop} : jc V 1 267 (0, 0) [.ref a0] X I R (fun rv I' => ((none : Option (Nat × Int)) = none ∧ (I' a0 0).toInt = 0 ∧ ((CU c = [] ∧ rv = some (jy (-1)) ∧ FK a0 SCR I I') ∨ (∃ (u : List (GT × GT)) (e : GT × GT), CU c = u ++ [e] ∧ rv = some (jy (u.length : Int)) ∧ MSX I' a0 l (e, c.2.1, CN c, u) ∧ FQ a0 I I'))) ∨ (∃ k w, (none : Option (Nat × Int)) = some (k, w) ∧ I' = RM (jx_u I a0 0 (Int32.ofInt 0)) a0 k w ∧ ∃ x : Int, rv = some (jy x))) QE := by
  have hW0 := hW.1
  have hW0 := hW.1
  refine wm_267 hV   (fun J26 J34 hJJ => ?_)
  obtain ⟨hJ26, hJ34⟩ := hJJ
  unfold wz_267
  refine ⟨s_M_0 hM, ?_⟩
  intro I2 e_I2; subst e_I2
  have hX0 := MSX_0 (v := Int32.ofInt 0) hX hW
  have h00 : (jx_u I a0 0 (Int32.ofInt 0) a0 0).toInt = 0 := by rw [jx_u_s]; rfl
  have h39 : (jx_u I a0 0 (Int32.ofInt 0) a0 39).toInt = ((CU c).length : Int) := hX0.2.2.2.2.1
  refine ⟨fun hq1 => ?_, fun hq1 => ?_⟩
  · have hne : CU c ≠ [] := fun e => by rw [e] at h39; exact hq1 h39
    obtain ⟨u, e, hue⟩ : ∃ u e, CU c = u ++ [e] := ⟨_, _, (List.dropLast_concat_getLast hne).symm⟩
    have hlu : (CU c).length = u.length + 1 := by rw [hue, List.length_append, List.length_singleton]
    have h24 := hX0.2.2.2.2.2.1
    intro I3 e_I3
    have hX3 : MSX I3 a0 l (c.1, c.2.1, CN c, u) := by
      refine MSX_un hX0 hW (fun k hk => by rw [e_I3, jx_u_k _ _ _ _ hk]) (fun q h1 h2 => by rw [e_I3, jx_u_r _ _ _ h1]) (by rw [e_I3, jx_u_s, h39]; rw [jy_toInt (by omega)]; omega) (by omega) ?_
      intro k e hk p q hp hq
      have hk2 := (List.getElem?_eq_some_iff.mp hk).1
      rw [e_I3, jx_u_r _ _ _ (by omega)]
      exact hX0.2.2.2.2.2.2 k e (by rw [hue, List.getElem?_append_left hk2]; exact hk) p q hp hq
    have hE : ∀ p q, p < Ln l → q < Lm l → (I3 (a0 + 1316 + u.length) (q * 10 + p)).toInt = e.1 p q ∧ (I3 (a0 + 1316 + u.length) (80 + q * 10 + p)).toInt = e.2 p q := fun p q hp hq => by
      rw [e_I3, jx_u_r _ _ _ (by omega)]
      exact hX0.2.2.2.2.2.2 u.length e (by rw [hue, List.getElem?_append_right (by omega), Nat.sub_self]; rfl) p q hp hq
    have h339 : (I3 a0 39).toInt = (u.length : Int) := hX3.2.2.2.2.1
    have h30 : (I3 a0 0).toInt = 0 := by rw [e_I3, jx_u_k _ _ _ _ (by omega)]; exact h00
    have hF3 : FQ a0 I I3 := by rw [e_I3]; exact FQ_f (FQ_k FK_0) (by decide)
    clear e_I3
    have L26 : ∀ (n26 : Nat) (l1 : Int) (K : jx_I), n26 = (8 - l1).toNat → (∃ i : Nat, l1 = i ∧ i ≤ 8 ∧ (∀ c p, c < 8 → p < 10 → (c < i) → K (a0 + 1288 + c) p = I3 (a0 + 1316 + u.length) (c * 10 + p) ∧ K (a0 + 1297 + c) p = I3 (a0 + 1316 + u.length) (80 + c * 10 + p)) ∧ ∀ q, (q < a0 + 1288 ∨ a0 + 1305 ≤ q) → K q = I3 q) → J26 l1 K := by
      intro n26
      induction n26 using Nat.strongRecOn with
      | ind n26 ih26 =>
      intro l1 K hn26 hI26
      obtain ⟨i, rfl, hi, hN, hO⟩ := hI26
      refine hJ26 _ _ ?_
      unfold wz_267_26
      refine ⟨by omega, ?_⟩
      refine ⟨fun hq2 => ?_, fun hq2 => ?_⟩
      · refine ⟨s_M_0 hM, ?_⟩
        have hn := hW.1
        have hK : FQ a0 I3 K := ⟨fun q h1 h2 => hO q (by omega), fun k _ => by rw [hO a0 (by omega)]⟩
        exact Or.inl ⟨rfl, by rw [hO a0 (by omega)]; exact h30, Or.inr ⟨u, e, hue, by rw [hO a0 (by omega), h339], MSX_hd hX3 hW hO (fun p c hp hc => by rw [(hN c p (by omega) (by omega) (by omega)).1]; exact (hE p c hp hc).1) (fun p c hp hc => by rw [(hN c p (by omega) (by omega) (by omega)).2]; exact (hE p c hp hc).2), FQ_trans hF3 hK⟩⟩
      · have L34 : ∀ (n34 : Nat) (l1 : Int) (l2 : Int) (K2 : jx_I), n34 = (10 - l2).toNat → (∃ j : Nat, l1 = (i : Int) ∧ l2 = j ∧ i < 8 ∧ j ≤ 10 ∧ (∀ c p, c < 8 → p < 10 → (c < i ∨ (c = i ∧ p < j)) → K2 (a0 + 1288 + c) p = I3 (a0 + 1316 + u.length) (c * 10 + p) ∧ K2 (a0 + 1297 + c) p = I3 (a0 + 1316 + u.length) (80 + c * 10 + p)) ∧ ∀ q, (q < a0 + 1288 ∨ a0 + 1305 ≤ q) → K2 q = I3 q) → J34 l1 l2 K2 := by
          intro n34
          induction n34 using Nat.strongRecOn with
          | ind n34 ih34 =>
          intro l1 l2 K2 hn34 hI34
          obtain ⟨j, rfl, rfl, hi, hj, hN, hO⟩ := hI34
          refine hJ34 _ _ _ ?_
          unfold wz_267_34
          refine ⟨by omega, ?_⟩
          refine ⟨fun hq3 => ?_, fun hq3 => ?_⟩
          · exact ih26 _ (by omega) _ _ rfl (⟨i + 1, by omega, by omega, fun c p h1 h2 h3 => hN c p h1 h2 (by omega), hO⟩)
          · have h39K : (K2 a0 39).toInt = (u.length : Int) := by rw [hO a0 (by omega)]; exact h339
            have e28 : ∀ v, (jx_u K2 (a0 + 1288 + i) j v a0 39).toInt = (u.length : Int) := fun v => by rw [jx_u_a _ _ _ _ (by omega)]; exact h39K
            refine ⟨s_M_0 hM, _, r_M_29 hM, _, ⟨s_M_1287 hM, by decide⟩, by omega, _, rr_M_1287 hM (by omega), _, r_M_32 hM, _, ⟨s_M_1315 hM, by decide⟩, ?_⟩
            try simp only [-eq_self, h39K, Int.toNat_natCast]
            refine ⟨by omega, _, rr_M_1315 hM (by omega), _, ⟨sr_M_1315 hM (by omega), by decide⟩, ?_⟩
            try simp only [-eq_self, Int.toNat_natCast, show (((i : Int) * 10) + (j : Int)).toNat = i * 10 + j by omega, show ((80 + ((i : Int) * 10)) + (j : Int)).toNat = 80 + i * 10 + j by omega]
            refine ⟨by omega, _, ⟨sr_M_1287 hM (by omega), by decide⟩, by omega, ?_⟩
            intro I28 e_I28; subst e_I28
            refine ⟨_, r_M_30 hM, _, ⟨s_M_1296 hM, by decide⟩, ?_⟩
            try simp only [-eq_self, e28, Int.toNat_natCast]
            refine ⟨by omega, _, rr_M_1296 hM (by omega), by omega, _, rr_M_1315 hM (by omega), _, ⟨sr_M_1315 hM (by omega), by decide⟩, ?_⟩
            try simp only [-eq_self, Int.toNat_natCast, show (((i : Int) * 10) + (j : Int)).toNat = i * 10 + j by omega, show ((80 + ((i : Int) * 10)) + (j : Int)).toNat = 80 + i * 10 + j by omega]
            refine ⟨by omega, _, ⟨sr_M_1296 hM (by omega), by decide⟩, by omega, ?_⟩
            intro I45 e_I45; subst e_I45
            exact ih34 _ (by omega) _ _ _ rfl (⟨j + 1, rfl, by omega, hi, by omega, by
              intro c p hc hp h9
              rcases (by omega : (c = i ∧ p = j) ∨ c < i ∨ (c = i ∧ p < j)) with ⟨h7, h8⟩ | h8 | ⟨h7, h8⟩
              · rw [h7, h8]
                refine ⟨?_, ?_⟩
                · rw [jx_u_a _ _ _ _ (by omega), jx_u_s, Int32.ofInt_toInt, hO _ (by omega)]
                · rw [jx_u_s, Int32.ofInt_toInt, jx_u_a _ _ _ _ (by omega), hO _ (by omega)]
              · refine ⟨?_, ?_⟩
                · rw [jx_u_a _ _ _ _ (by omega), jx_u_a _ _ _ _ (by omega)]; exact (hN c p hc hp (by omega)).1
                · rw [jx_u_a _ _ _ _ (by omega), jx_u_a _ _ _ _ (by omega)]; exact (hN c p hc hp (by omega)).2
              · rw [h7]
                refine ⟨?_, ?_⟩
                · rw [jx_u_a _ _ _ _ (by omega), jx_u_k _ _ _ _ (by omega)]; exact (hN i p hi hp (by omega)).1
                · rw [jx_u_k _ _ _ _ (by omega), jx_u_a _ _ _ _ (by omega)]; exact (hN i p hi hp (by omega)).2, fun q hq => by rw [jx_u_r _ _ _ (by omega), jx_u_r _ _ _ (by omega)]; exact hO q hq⟩)
        exact L34 _ _ _ _ rfl (⟨0, rfl, rfl, by omega, by omega, fun c p h1 h2 h3 => hN c p h1 h2 (by omega), hO⟩)
    exact L26 _ _ _ rfl (⟨0, rfl, by omega, fun c p _ _ h => absurd h (by omega), fun q _ => rfl⟩)
  · exact Or.inl ⟨rfl, h00, Or.inl ⟨List.eq_nil_of_length_eq_zero (by omega), rfl, FK_0⟩⟩
theorem MSX_nt {I I' : jx_I} {m : Nat} {l : LT} {c : CT} {N : List (Nat × Int)} (h : MSX I m l c) (hW : WT l) (hk : ∀ k, k ≠ 38 → I' m k = I m k) (hq : ∀ q, q ≠ m → (q < m + 1306 ∨ m + 1315 ≤ q) → I' q = I q) (h38 : (I' m 38).toInt = (N.length : Int)) (h9 : N.length ≤ 9) (hN : ∀ (k : Nat) (e : Nat × Int), N[k]? = some e → (I' (m + 1306 + k) 0).toInt = e.1 ∧ (I' (m + 1306 + k) 1).toInt = e.2) : MSX I' m l (c.1, c.2.1, N, CU c) := by
  have hn := hW.1
  refine ⟨MD_of h.1 (hk 23 (by omega)) (fun q h1 h2 => hq q (by omega) (by omega)) hW, ⟨ML_of h.2.1.1 (hk 36 (by omega)) (hq _ (by omega) (by omega)), MH_of h.2.1.2.1 (fun j hj => hq _ (by omega) (by omega)), MH_of h.2.1.2.2 (fun j hj => hq _ (by omega) (by omega))⟩, ML_of h.2.2.1 (hk 37 (by omega)) (hq _ (by omega) (by omega)), ⟨h38, h9, hN⟩, ⟨?_, h.2.2.2.2.2.1, ?_⟩⟩
  · rw [hk 39 (by omega)]; exact h.2.2.2.2.1
  · intro k e he p q hp hq2
    rw [hq _ (by omega) (by omega)]
    exact h.2.2.2.2.2.2 k e he p q hp hq2
/-- GrievingCamelsModel.lay -/
theorem cz_282 {V : jx_V} (hV : V.1.stackTraces = false) {X : jx_X} {R : jx_R} {I : jx_I} {a0 : Nat} {a1 : Int} {a2 : Int} {l : LT} {c : CT} 
    (hM : MX X R a0) (hX : MSX I a0 l c) (hW : WT l) (hC : WC l c) (r_a1 : -2147483648 ≤ a1 ∧ a1 < 2147483648) (r_a2 : -2147483648 ≤ a2 ∧ a2 < 2147483648)
    {QE : String → jx_I → Prop} : jc V 3 282 (0, 0) [.ref a0, jy a1, jy a2] X I R (fun rv I' => (nzw ((0 ≤ a1 ∧ a1 < ((2 ^ Lm l : Nat) : Int)) ∧ (0 ≤ a2 ∧ a2 ≤ 99)) 2 1 (none) = none ∧ (I' a0 0).toInt = 0 ∧ ((9 ≤ (CN c).length ∧ rv = some (jy (-1)) ∧ FK a0 SCR I I') ∨ ((CN c).length < 9 ∧ rv = some (jy ((CN c).length + 1 : Nat)) ∧ MSX I' a0 l (c.1, c.2.1, CN c ++ [(a1.toNat, a2)], CU c) ∧ FQ a0 I I'))) ∨ (∃ k w, nzw ((0 ≤ a1 ∧ a1 < ((2 ^ Lm l : Nat) : Int)) ∧ (0 ≤ a2 ∧ a2 ≤ 99)) 2 1 (none) = some (k, w) ∧ I' = RM (jx_u I a0 0 (Int32.ofInt 0)) a0 k w ∧ ∃ x : Int, rv = some (jy x))) QE := by
  have hW0 := hW.1
  have hW0 := hW.1
  refine wm_282 hV (by omega) (by omega)  (fun J29 hJJ => ?_)
  have hJ29 := hJJ
  unfold wz_282
  refine ⟨s_M_0 hM, ?_⟩
  intro I2 e_I2; subst e_I2
  have hX0 := MSX_0 (v := Int32.ofInt 0) hX hW
  have h00 : (jx_u I a0 0 (Int32.ofInt 0) a0 0).toInt = 0 := by rw [jx_u_s]; rfl
  have h38 : (jx_u I a0 0 (Int32.ofInt 0) a0 38).toInt = ((CN c).length : Int) := hX0.2.2.2.1.1
  have h9 := hX0.2.2.2.1.2.1
  refine ⟨_, cz_250 hV hM hX0.1 hW (by omega), ?_⟩
  rintro _ I5 ⟨rfl, e9⟩; replace e9 := e9.symm; subst e9
  refine ⟨_, rfl, ?_⟩
  refine ⟨by omega, ?_⟩
  refine ⟨fun hq1 => ?_, fun hq1 => ?_⟩
  · have c1 := bi_f hq1
    refine hJ29 _ _ _ ?_
    unfold wz_282_29
    refine ⟨s_M_0 hM, ?_⟩
    refine ⟨_, cz_202b hV hM h00 (by omega) (by omega), ?_⟩
    rintro _ I16 ⟨rfl, e9⟩; replace e9 := e9.symm; subst e9
    refine ⟨_, rfl, ?_⟩
    refine ⟨by omega, ?_⟩
    refine ⟨fun hq2 => ?_, fun hq2 => ?_⟩
    · exact absurd hq2 (by decide)
    · exact Or.inr ⟨_, _, nzw_f (fun k => c1 k.1), rfl, _, rfl⟩
  · have c1 := bi_t hq1
    refine ⟨_, cz_203 hV (by omega) (by omega) (by omega), ?_⟩
    rintro _ I10 ⟨rfl, e9⟩; replace e9 := e9.symm; subst e9
    refine ⟨_, rfl, ?_⟩
    refine ⟨by omega, ?_⟩
    refine ⟨fun hq3 => ?_, fun hq3 => ?_⟩
    · have c2 := bi_t hq3
      refine hJ29 _ _ _ ?_
      unfold wz_282_29
      refine ⟨s_M_0 hM, ?_⟩
      refine ⟨_, cz_202o hV hM h00 (by omega) (by omega), ?_⟩
      rintro _ I16 ⟨rfl, e9⟩; replace e9 := e9.symm; subst e9
      refine ⟨_, rfl, ?_⟩
      refine ⟨by omega, ?_⟩
      refine ⟨fun hq4 => ?_, fun hq4 => ?_⟩
      · refine ⟨s_M_0 hM, ?_⟩
        refine ⟨fun hq5 => ?_, fun hq5 => ?_⟩
        · refine ⟨_, r_M_31 hM, _, ⟨s_M_1305 hM, by decide⟩, ?_⟩
          try simp only [-eq_self, h38, Int.toNat_natCast]
          refine ⟨by omega, _, rr_M_1305 hM (by omega), _, ⟨sr_M_1305 hM (by omega), by decide⟩, ?_⟩
          try simp only [-eq_self, show (0 : Int).toNat = 0 from rfl]
          refine ⟨by omega, ?_⟩
          intro I30 e_I30; subst e_I30
          have e30 : (jx_u (jx_u I a0 0 (Int32.ofInt 0)) (a0 + 1306 + (CN c).length) 0 (Int32.ofInt a1) a0 38).toInt = ((CN c).length : Int) := by rw [jx_u_a _ _ _ _ (by omega)]; exact h38
          try simp only [-eq_self, e30, Int.toNat_natCast]
          refine ⟨by omega, _, rr_M_1305 hM (by omega), _, ⟨sr_M_1305 hM (by omega), by decide⟩, ?_⟩
          try simp only [-eq_self, show (1 : Int).toNat = 1 from rfl]
          refine ⟨by omega, ?_⟩
          intro I37 e_I37; subst e_I37
          have e37 : (jx_u (jx_u (jx_u I a0 0 (Int32.ofInt 0)) (a0 + 1306 + (CN c).length) 0 (Int32.ofInt a1)) (a0 + 1306 + (CN c).length) 1 (Int32.ofInt a2) a0 38).toInt = ((CN c).length : Int) := by rw [jx_u_a _ _ _ _ (by omega)]; exact e30
          try simp only [-eq_self, e37, Int.toNat_natCast]
          intro I38 e_I38; subst e_I38
          refine Or.inl ⟨nzw_t ⟨c1, c2⟩, by rw [jx_u_k _ _ _ _ (by omega), jx_u_a _ _ _ _ (by omega), jx_u_a _ _ _ _ (by omega)]; exact h00, Or.inr ⟨by omega, by rw [jx_u_s, jy_toInt (by omega)]; rfl, ?_, FQ_f (FQ_u (FQ_u (FQ_k FK_0) (by omega)) (by omega)) (by decide)⟩⟩
          refine MSX_nt hX0 hW (fun k hk => by rw [jx_u_k _ _ _ _ hk, jx_u_a _ _ _ _ (by omega), jx_u_a _ _ _ _ (by omega)]) (fun q h1 h2 => by rw [jx_u_r _ _ _ h1, jx_u_r _ _ _ (by omega), jx_u_r _ _ _ (by omega)]) (by rw [jx_u_s, jy_toInt (by omega), List.length_append, List.length_singleton]; rfl) (by rw [List.length_append, List.length_singleton]; omega) ?_
          intro k e hk
          have hk2 := (List.getElem?_eq_some_iff.mp hk).1
          rw [List.length_append, List.length_singleton] at hk2
          rcases Nat.lt_or_ge k (CN c).length with h | h
          · rw [List.getElem?_append_left h] at hk
            refine ⟨?_, ?_⟩
            · rw [jx_u_a _ _ _ _ (by omega), jx_u_a _ _ _ _ (by omega), jx_u_a _ _ _ _ (by omega)]
              exact (hX0.2.2.2.1.2.2 k e hk).1
            · rw [jx_u_a _ _ _ _ (by omega), jx_u_a _ _ _ _ (by omega), jx_u_a _ _ _ _ (by omega)]
              exact (hX0.2.2.2.1.2.2 k e hk).2
          · have hk3 : k = (CN c).length := by omega
            rw [hk3, List.getElem?_append_right (by omega), Nat.sub_self] at hk
            have hke : (a1.toNat, a2) = e := Option.some.inj hk
            rw [hk3, ← hke]
            refine ⟨?_, ?_⟩
            · rw [jx_u_a _ _ _ _ (by omega), jx_u_k _ _ _ _ (by omega), jx_u_s, jy_toInt (by omega)]
              show a1 = ((a1.toNat : Nat) : Int)
              omega
            · rw [jx_u_a _ _ _ _ (by omega), jx_u_s, jy_toInt (by omega)]
        · exact Or.inl ⟨nzw_t ⟨c1, c2⟩, h00, Or.inl ⟨by omega, rfl, FK_0⟩⟩
      · exact absurd hq4 (by decide)
    · have c2 := bi_f hq3
      refine hJ29 _ _ _ ?_
      unfold wz_282_29
      refine ⟨s_M_0 hM, ?_⟩
      refine ⟨_, cz_202b hV hM h00 (by omega) (by omega), ?_⟩
      rintro _ I16 ⟨rfl, e9⟩; replace e9 := e9.symm; subst e9
      refine ⟨_, rfl, ?_⟩
      refine ⟨by omega, ?_⟩
      refine ⟨fun hq6 => ?_, fun hq6 => ?_⟩
      · exact absurd hq6 (by decide)
      · exact Or.inr ⟨_, _, nzw_f (fun k => c2 k.2), rfl, _, rfl⟩
/-- GrievingCamelsModel.clear -/
theorem cz_283 {V : jx_V} (hV : V.1.stackTraces = false) {X : jx_X} {R : jx_R} {I : jx_I} {a0 : Nat} {l : LT} {c : CT} 
    (hM : MX X R a0) (hX : MSX I a0 l c) (hW : WT l) (hC : WC l c) 
    {QE : String → jx_I → Prop} : jc V 1 283 (0, 0) [.ref a0] X I R (fun rv I' => ((none : Option (Nat × Int)) = none ∧ rv = some (jy ((CN c).length : Int)) ∧ (I' a0 0).toInt = 0 ∧ MSX I' a0 l (c.1, c.2.1, [], CU c) ∧ FQ a0 I I') ∨ (∃ k w, (none : Option (Nat × Int)) = some (k, w) ∧ I' = RM (jx_u I a0 0 (Int32.ofInt 0)) a0 k w ∧ ∃ x : Int, rv = some (jy x))) QE := by
  have hW0 := hW.1
  have hW0 := hW.1
  refine wm_283 hV   ?_
  unfold wz_283
  refine ⟨s_M_0 hM, ?_⟩
  intro I2 e_I2; subst e_I2
  have hX0 := MSX_0 (v := Int32.ofInt 0) hX hW
  have h00 : (jx_u I a0 0 (Int32.ofInt 0) a0 0).toInt = 0 := by rw [jx_u_s]; rfl
  intro I3 e_I3; subst e_I3
  exact Or.inl ⟨rfl, by rw [hX0.2.2.2.1.1], by rw [jx_u_k _ _ _ _ (by omega)]; exact h00, MSX_nt hX0 hW (fun k hk => jx_u_k _ _ _ _ hk) (fun q h1 h2 => jx_u_r _ _ _ h1) (by rw [jx_u_s]; rfl) (Nat.zero_le _) (fun k e hk => by cases hk), FQ_f (FQ_k FK_0) (by decide)⟩
