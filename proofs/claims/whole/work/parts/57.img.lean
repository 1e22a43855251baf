/-! ===== the reference: images kept, taken back ===== -/
/-- where the s-th value of an image stands: array, place -/
def mad (s : Nat) : Nat × Nat := if s < 4 then (0, 36 + s) else if s < 12 then (1344, s - 4) else if s < 24 then (1345, s - 12) else if s < 42 then (1306 + (s - 24) / 2, (s - 24) % 2) else if s < 202 then (if (s - 42) % 2 = 0 then (1288 + (s - 42) / 20, (s - 42) % 20 / 2) else (1297 + (s - 42) / 20, (s - 42) % 20 / 2)) else (1316 + (s - 202) / 160, (s - 202) % 160)
def minv (e : Nat × Nat) : Nat := if e.1 = 0 then e.2 - 36 else if e.1 = 1344 then 4 + e.2 else if e.1 = 1345 then 12 + e.2 else if e.1 < 1297 then 42 + 20 * (e.1 - 1288) + 2 * e.2 else if e.1 < 1306 then 42 + 20 * (e.1 - 1297) + 2 * e.2 + 1 else if e.1 < 1316 then 24 + 2 * (e.1 - 1306) + e.2 else 202 + 160 * (e.1 - 1316) + e.2
set_option maxRecDepth 100000 in
theorem mad_inv : ∀ s, s < 4042 → minv (mad s) = s := by decide +kernel
set_option maxRecDepth 100000 in
theorem mad_rng : ∀ s, s < 4042 → ((mad s).1 = 0 ∧ 36 ≤ (mad s).2 ∧ (mad s).2 < 40) ∨ (1288 ≤ (mad s).1 ∧ (mad s).1 < 1346 ∧ ((mad s).1 < 1340 ∨ 1344 ≤ (mad s).1)) := by decide +kernel
theorem mad_r {i : Nat} (h : i < 8) : mad (4 + i) = (1344, i) := by
  unfold mad; rw [if_neg (by omega), if_pos (by omega), show 4 + i - 4 = i by omega]
theorem mad_j {i : Nat} (h : i < 12) : mad (12 + i) = (1345, i) := by
  unfold mad; rw [if_neg (by omega), if_neg (by omega), if_pos (by omega), show 12 + i - 12 = i by omega]
theorem mad_l {i j : Nat} (h : i < 9) (hj : j < 2) : mad (24 + 2 * i + j) = (1306 + i, j) := by
  unfold mad; rw [if_neg (by omega), if_neg (by omega), if_neg (by omega), if_pos (by omega), show (24 + 2 * i + j - 24) / 2 = i by omega, show (24 + 2 * i + j - 24) % 2 = j by omega]
theorem mad_g {c q : Nat} (h : c < 8) (hq : q < 10) : mad (42 + 20 * c + 2 * q) = (1288 + c, q) := by
  unfold mad; rw [if_neg (by omega), if_neg (by omega), if_neg (by omega), if_neg (by omega), if_pos (by omega), if_pos (by omega), show (42 + 20 * c + 2 * q - 42) / 20 = c by omega, show (42 + 20 * c + 2 * q - 42) % 20 / 2 = q by omega]
theorem mad_d {c q : Nat} (h : c < 8) (hq : q < 10) : mad (42 + 20 * c + 2 * q + 1) = (1297 + c, q) := by
  unfold mad; rw [if_neg (by omega), if_neg (by omega), if_neg (by omega), if_neg (by omega), if_pos (by omega), if_neg (by omega), show (42 + 20 * c + 2 * q + 1 - 42) / 20 = c by omega, show (42 + 20 * c + 2 * q + 1 - 42) % 20 / 2 = q by omega]
theorem mad_u {i j : Nat} (_h : i < 24) (hj : j < 160) : mad (202 + 160 * i + j) = (1316 + i, j) := by
  unfold mad; rw [if_neg (by omega), if_neg (by omega), if_neg (by omega), if_neg (by omega), if_neg (by omega), show (202 + 160 * i + j - 202) / 160 = i by omega, show (202 + 160 * i + j - 202) % 160 = j by omega]
/-- n values have been moved into x -/
def MVo (I0 K : jx_I) (m x n : Nat) : Prop := (K m 41).toInt = (n : Int) ∧ (∀ s, s < n → K x s = I0 (m + (mad s).1) (mad s).2) ∧ ∀ q k, q ≠ x → ¬ (q = m ∧ k = 41) → K q k = I0 q k
/-- n values have been moved out of x -/
def MVi (I0 K : jx_I) (m x n : Nat) : Prop := (K m 41).toInt = (n : Int) ∧ (∀ s, s < n → K (m + (mad s).1) (mad s).2 = I0 x s) ∧ ∀ q k, ¬ (q = m ∧ k = 41) → (∀ s, s < n → ¬ (q = m + (mad s).1 ∧ k = (mad s).2)) → K q k = I0 q k
theorem MVo_0 {I K : jx_I} {m x : Nat} {v : Int32} (hx : x = m + 1341 ∨ x = m + 1342 ∨ x = m + 1343) (e : K = jx_u I m 41 v) (hv : v.toInt = 0) : MVo I K m x 0 := by
  subst e
  refine ⟨by rw [jx_u_s, hv]; rfl, fun s h => absurd h (by omega), fun q k h1 h2 => if_neg h2⟩
theorem MVi_0 {I K : jx_I} {m x : Nat} {v : Int32} (e : K = jx_u I m 41 v) (hv : v.toInt = 0) : MVi I K m x 0 := by
  subst e
  refine ⟨by rw [jx_u_s, hv]; rfl, fun s h => absurd h (by omega), fun q k h2 _ => if_neg h2⟩
theorem MVo_s {I0 K I5 I7 : jx_I} {m x n o k q0 : Nat} (h : MVo I0 K m x n) (hx : x = m + 1341 ∨ x = m + 1342 ∨ x = m + 1343) (hn : n < 4042) (hm : mad n = (o, k)) (hq0 : q0 = m + o) (h41 : (I5 m 41).toInt = ((n + 1 : Nat) : Int)) (hv : (I5 x n).toInt = (K q0 k).toInt) (h1 : ∀ j, j ≠ n → I5 x j = K x j) (h2 : ∀ j, j ≠ 41 → I5 m j = K m j) (h3 : ∀ q, q ≠ m → q ≠ x → I5 q = K q) (e : I7 = jx_u I5 q0 k (Int32.ofInt (K q0 k).toInt)) : MVo I0 I7 m x (n + 1) := by
  subst e
  have hr := mad_rng n hn
  rw [hm] at hr
  simp only at hr
  have hK : K q0 k = I0 q0 k := h.2.2 _ _ (by omega) (by omega)
  rw [Int32.ofInt_toInt]
  refine ⟨?_, ?_, ?_⟩
  · show (if m = q0 ∧ 41 = k then _ else I5 m 41).toInt = _
    rw [if_neg (by omega)]; exact h41
  · intro s hs
    rw [jx_u_a _ _ _ _ (by omega)]
    rcases Nat.lt_or_ge s n with h9 | h9
    · rw [h1 s (by omega)]; exact h.2.1 s h9
    · have hsn : s = n := by omega
      subst hsn
      rw [hm]
      show I5 x s = I0 (m + o) k
      rw [← hq0, ← hK]
      exact Int32.toInt_inj.mp hv
  · intro q j hq hj
    show (if q = q0 ∧ j = k then K q0 k else I5 q j) = _
    by_cases h9 : q = q0 ∧ j = k
    · rw [if_pos h9, hK, h9.1, h9.2]
    · rw [if_neg h9, ← h.2.2 q j hq hj]
      by_cases h8 : q = m
      · subst h8
        exact h2 j (fun e => hj ⟨rfl, e⟩)
      · rw [h3 q h8 hq]
theorem MVi_s {I0 K I5 I7 : jx_I} {m x n o k q0 : Nat} (h : MVi I0 K m x n) (hx : x = m + 1341 ∨ x = m + 1342 ∨ x = m + 1343) (hn : n < 4042) (hm : mad n = (o, k)) (hq0 : q0 = m + o) (h41 : (I5 m 41).toInt = ((n + 1 : Nat) : Int)) (h2 : ∀ j, j ≠ 41 → I5 m j = K m j) (h3 : ∀ q, q ≠ m → I5 q = K q) (e : I7 = jx_u I5 q0 k (Int32.ofInt (K x n).toInt)) : MVi I0 I7 m x (n + 1) := by
  subst e
  have hr := mad_rng n hn
  rw [hm] at hr
  simp only at hr
  have hK : K x n = I0 x n := h.2.2 _ _ (by omega) (fun s hs => by have := mad_rng s (by omega); omega)
  have hI : ∀ q j, ¬ (q = m ∧ j = 41) → I5 q j = K q j := fun q j hj => by
    by_cases h8 : q = m
    · subst h8
      exact h2 j (fun e => hj ⟨rfl, e⟩)
    · rw [h3 q h8]
  rw [Int32.ofInt_toInt]
  refine ⟨?_, ?_, ?_⟩
  · show (if m = q0 ∧ 41 = k then _ else I5 m 41).toInt = _
    rw [if_neg (by omega)]; exact h41
  · intro s hs
    rcases Nat.lt_or_ge s n with h9 | h9
    · have hrs := mad_rng s (by omega)
      have hne : ¬ (m + (mad s).1 = q0 ∧ (mad s).2 = k) := fun e => by
        have e2 : mad s = mad n := by rw [hm]; exact Prod.ext (by have := e.1; show (mad s).1 = o; omega) e.2
        have := mad_inv s (by omega)
        rw [e2, mad_inv n hn] at this
        omega
      show (if m + (mad s).1 = q0 ∧ (mad s).2 = k then _ else _) = _
      rw [if_neg hne, hI _ _ (by omega)]
      exact h.2.1 s h9
    · have hsn : s = n := by omega
      subst hsn
      rw [hm]
      show jx_u I5 q0 k _ (m + o) k = _
      rw [← hq0, jx_u_s, hK]
  · intro q j hj h8
    have h7 := h8 n (by omega)
    rw [hm] at h7
    show (if q = q0 ∧ j = k then _ else I5 q j) = _
    rw [if_neg (by rw [hq0]; exact h7), hI _ _ hj]
    exact h.2.2 q j hj (fun s hs => h8 s (by omega))
/-- GrievingCamelsModel.movesAll -/
theorem cz_322p {V : jx_V} (hV : V.1.stackTraces = false) {X : jx_X} {R : jx_R} {I : jx_I} {a0 : Nat} {a1 : Nat} {a2 : Int} 
    (hM : MX X R a0) (hs : X.2.1 a1 = some (100, 4042)) (hx : a1 = a0 + 1341 ∨ a1 = a0 + 1342 ∨ a1 = a0 + 1343) (h2 : a2 = 0)
    {QE : String → jx_I → Prop} : jc V 2 322 (0, 0) [.ref a0, .ref a1, jy a2] X I R (fun rv I' => rv = none ∧ MVo I I' a0 a1 4042) QE := by
  refine wm_322 hV (by omega)  (fun J63 J95 J127 J136 J180 J189 J258 J267 hJJ => ?_)
  obtain ⟨hJ63, hJ95, hJ127, hJ136, hJ180, hJ189, hJ258, hJ267⟩ := hJJ
  unfold wz_322
  refine ⟨s_M_0 hM, ?_⟩
  intro I2 e_I2
  have m0 : MVo I I2 a0 a1 0 := (MVo_0 hx e_I2 rfl)
  clear e_I2
  refine ⟨_, cz_321p (k := 0) hV hM hs (by omega) m0.1 (by omega) (jy_rng _) h2, ?_⟩
  rintro _ I5 ⟨rfl, h41, hv, h1, h2k, h3⟩
  refine ⟨_, rfl, ?_⟩
  intro I7 e_I7
  have m1 : MVo I I7 a0 a1 (0 + 1) := MVo_s m0 hx (by omega) (show mad 0 = (0, 36) by decide) rfl h41 hv h1 h2k h3 e_I7
  clear e_I7
  refine ⟨_, cz_321p (k := 1) hV hM hs (by omega) m1.1 (by omega) (jy_rng _) h2, ?_⟩
  rintro _ I10 ⟨rfl, h41, hv, h1, h2k, h3⟩
  refine ⟨_, rfl, ?_⟩
  intro I12 e_I12
  have m2 : MVo I I12 a0 a1 (1 + 1) := MVo_s m1 hx (by omega) (show mad 1 = (0, 37) by decide) rfl h41 hv h1 h2k h3 e_I12
  clear e_I12
  refine ⟨_, cz_321p (k := 2) hV hM hs (by omega) m2.1 (by omega) (jy_rng _) h2, ?_⟩
  rintro _ I15 ⟨rfl, h41, hv, h1, h2k, h3⟩
  refine ⟨_, rfl, ?_⟩
  intro I17 e_I17
  have m3 : MVo I I17 a0 a1 (2 + 1) := MVo_s m2 hx (by omega) (show mad 2 = (0, 38) by decide) rfl h41 hv h1 h2k h3 e_I17
  clear e_I17
  refine ⟨_, cz_321p (k := 3) hV hM hs (by omega) m3.1 (by omega) (jy_rng _) h2, ?_⟩
  rintro _ I20 ⟨rfl, h41, hv, h1, h2k, h3⟩
  refine ⟨_, rfl, ?_⟩
  intro I22 e_I22
  have m4 : MVo I I22 a0 a1 (3 + 1) := MVo_s m3 hx (by omega) (show mad 3 = (0, 39) by decide) rfl h41 hv h1 h2k h3 e_I22
  clear e_I22
  have L63 : ∀ (n63 : Nat) (l3 : Int) (K63 : jx_I), n63 = (8 - l3).toNat → (∃ i : Nat, l3 = (i : Int) ∧ i ≤ 8 ∧ MVo I K63 a0 a1 (4 + i)) → J63 l3 K63 := by
    intro n63
    induction n63 using Nat.strongRecOn with
    | ind n63 ih63 =>
    intro l3 K63 hn63 hI63
    obtain ⟨i, rfl, hi, hm⟩ := hI63
    refine hJ63 _ _ ?_
    unfold wz_322_63
    refine ⟨by omega, ?_⟩
    refine ⟨fun hq1 => ?_, fun hq1 => ?_⟩
    · have L95 : ∀ (n95 : Nat) (l3 : Int) (K95 : jx_I), n95 = (12 - l3).toNat → (∃ i : Nat, l3 = (i : Int) ∧ i ≤ 12 ∧ MVo I K95 a0 a1 (12 + i)) → J95 l3 K95 := by
        intro n95
        induction n95 using Nat.strongRecOn with
        | ind n95 ih95 =>
        intro l3 K95 hn95 hI95
        obtain ⟨i, rfl, hi, hm⟩ := hI95
        refine hJ95 _ _ ?_
        unfold wz_322_95
        refine ⟨by omega, ?_⟩
        refine ⟨fun hq2 => ?_, fun hq2 => ?_⟩
        · have L127 : ∀ (n127 : Nat) (l3 : Int) (K127 : jx_I), n127 = (9 - l3).toNat → (∃ i : Nat, l3 = (i : Int) ∧ i ≤ 9 ∧ MVo I K127 a0 a1 (24 + 2 * i)) → J127 l3 K127 := by
            intro n127
            induction n127 using Nat.strongRecOn with
            | ind n127 ih127 =>
            intro l3 K127 hn127 hI127
            obtain ⟨i, rfl, hi, hm⟩ := hI127
            refine hJ127 _ _ ?_
            unfold wz_322_127
            refine ⟨by omega, ?_⟩
            refine ⟨fun hq3 => ?_, fun hq3 => ?_⟩
            · have L180 : ∀ (n180 : Nat) (l3 : Int) (K180 : jx_I), n180 = (8 - l3).toNat → (∃ i : Nat, l3 = (i : Int) ∧ i ≤ 8 ∧ MVo I K180 a0 a1 (42 + 20 * i)) → J180 l3 K180 := by
                intro n180
                induction n180 using Nat.strongRecOn with
                | ind n180 ih180 =>
                intro l3 K180 hn180 hI180
                obtain ⟨i, rfl, hi, hm⟩ := hI180
                refine hJ180 _ _ ?_
                unfold wz_322_180
                refine ⟨by omega, ?_⟩
                refine ⟨fun hq4 => ?_, fun hq4 => ?_⟩
                · have L258 : ∀ (n258 : Nat) (l3 : Int) (K258 : jx_I), n258 = (24 - l3).toNat → (∃ i : Nat, l3 = (i : Int) ∧ i ≤ 24 ∧ MVo I K258 a0 a1 (202 + 160 * i)) → J258 l3 K258 := by
                    intro n258
                    induction n258 using Nat.strongRecOn with
                    | ind n258 ih258 =>
                    intro l3 K258 hn258 hI258
                    obtain ⟨i, rfl, hi, hm⟩ := hI258
                    refine hJ258 _ _ ?_
                    unfold wz_322_258
                    refine ⟨by omega, ?_⟩
                    refine ⟨fun hq5 => ?_, fun hq5 => ?_⟩
                    · rw [show i = 24 by omega] at hm
                      exact ⟨rfl, hm⟩
                    · have L267 : ∀ (n267 : Nat) (l3 : Int) (l4 : Int) (K267 : jx_I), n267 = (160 - l4).toNat → (∃ j : Nat, l3 = (i : Int) ∧ l4 = (j : Int) ∧ i < 24 ∧ j ≤ 160 ∧ MVo I K267 a0 a1 (202 + 160 * i + j)) → J267 l3 l4 K267 := by
                        intro n267
                        induction n267 using Nat.strongRecOn with
                        | ind n267 ih267 =>
                        intro l3 l4 K267 hn267 hI267
                        obtain ⟨j, rfl, rfl, hi, hj, hm⟩ := hI267
                        refine hJ267 _ _ _ ?_
                        unfold wz_322_267
                        refine ⟨by omega, ?_⟩
                        refine ⟨fun hq6 => ?_, fun hq6 => ?_⟩
                        · exact ih258 _ (by omega) _ _ rfl (⟨i + 1, by omega, by omega, by rw [show 202 + 160 * (i + 1) = 202 + 160 * i + j by omega]; exact hm⟩)
                        · refine ⟨s_M_0 hM, _, r_M_32 hM, _, ⟨s_M_1315 hM, by decide⟩, by omega, _, rr_M_1315 hM (by omega), by omega, _, rr_M_1315 hM (by omega), _, ⟨sr_M_1315 hM (by omega), by decide⟩, ?_⟩
                          try simp only [-eq_self, Int.toNat_natCast]
                          refine ⟨by omega, ?_⟩
                          refine ⟨_, cz_321p (k := 202 + 160 * i + j) hV hM hs (by omega) hm.1 (by omega) (jy_rng _) h2, ?_⟩
                          rintro _ I136 ⟨rfl, h41, hv, h1, h2k, h3⟩
                          refine ⟨_, rfl, ?_⟩
                          refine ⟨_, ⟨sr_M_1315 hM (by omega), by decide⟩, ?_⟩
                          try simp only [-eq_self, Int.toNat_natCast]
                          refine ⟨by omega, ?_⟩
                          intro I141 e_I141
                          have m5 : MVo I I141 a0 a1 ((202 + 160 * i + j) + 1) := MVo_s hm hx (by omega) (mad_u (by omega) (by omega)) (by omega) h41 hv h1 h2k h3 e_I141
                          clear e_I141
                          exact ih267 _ (by omega) _ _ _ rfl (⟨j + 1, rfl, by omega, by omega, by omega, m5⟩)
                      exact L267 _ _ _ _ rfl (⟨0, rfl, rfl, by omega, by omega, hm⟩)
                  exact L258 _ _ _ rfl (⟨0, rfl, by omega, by rw [show i = 8 by omega] at hm; exact hm⟩)
                · have L189 : ∀ (n189 : Nat) (l3 : Int) (l4 : Int) (K189 : jx_I), n189 = (10 - l4).toNat → (∃ j : Nat, l3 = (i : Int) ∧ l4 = (j : Int) ∧ i < 8 ∧ j ≤ 10 ∧ MVo I K189 a0 a1 (42 + 20 * i + 2 * j)) → J189 l3 l4 K189 := by
                    intro n189
                    induction n189 using Nat.strongRecOn with
                    | ind n189 ih189 =>
                    intro l3 l4 K189 hn189 hI189
                    obtain ⟨j, rfl, rfl, hi, hj, hm⟩ := hI189
                    refine hJ189 _ _ _ ?_
                    unfold wz_322_189
                    refine ⟨by omega, ?_⟩
                    refine ⟨fun hq7 => ?_, fun hq7 => ?_⟩
                    · exact ih180 _ (by omega) _ _ rfl (⟨i + 1, by omega, by omega, by rw [show 42 + 20 * (i + 1) = 42 + 20 * i + 2 * j by omega]; exact hm⟩)
                    · refine ⟨s_M_0 hM, _, r_M_29 hM, _, ⟨s_M_1287 hM, by decide⟩, by omega, _, rr_M_1287 hM (by omega), by omega, _, rr_M_1287 hM (by omega), _, ⟨sr_M_1287 hM (by omega), by decide⟩, ?_⟩
                      try simp only [-eq_self, Int.toNat_natCast]
                      refine ⟨by omega, ?_⟩
                      refine ⟨_, cz_321p (k := 42 + 20 * i + 2 * j) hV hM hs (by omega) hm.1 (by omega) (jy_rng _) h2, ?_⟩
                      rintro _ I91 ⟨rfl, h41, hv, h1, h2k, h3⟩
                      refine ⟨_, rfl, ?_⟩
                      refine ⟨_, ⟨sr_M_1287 hM (by omega), by decide⟩, ?_⟩
                      try simp only [-eq_self, Int.toNat_natCast]
                      refine ⟨by omega, ?_⟩
                      intro I96 e_I96
                      have m5 : MVo I I96 a0 a1 ((42 + 20 * i + 2 * j) + 1) := MVo_s hm hx (by omega) (mad_g (by omega) (by omega)) (by omega) h41 hv h1 h2k h3 e_I96
                      clear e_I96
                      refine ⟨_, r_M_30 hM, _, ⟨s_M_1296 hM, by decide⟩, by omega, _, rr_M_1296 hM (by omega), by omega, _, rr_M_1296 hM (by omega), _, ⟨sr_M_1296 hM (by omega), by decide⟩, ?_⟩
                      try simp only [-eq_self, Int.toNat_natCast]
                      refine ⟨by omega, ?_⟩
                      refine ⟨_, cz_321p (k := 42 + 20 * i + 2 * j + 1) hV hM hs (by omega) m5.1 (by omega) (jy_rng _) h2, ?_⟩
                      rintro _ I112 ⟨rfl, h41, hv, h1, h2k, h3⟩
                      refine ⟨_, rfl, ?_⟩
                      refine ⟨_, ⟨sr_M_1296 hM (by omega), by decide⟩, ?_⟩
                      try simp only [-eq_self, Int.toNat_natCast]
                      refine ⟨by omega, ?_⟩
                      intro I117 e_I117
                      have m6 : MVo I I117 a0 a1 ((42 + 20 * i + 2 * j + 1) + 1) := MVo_s m5 hx (by omega) (mad_d (by omega) (by omega)) (by omega) h41 hv h1 h2k h3 e_I117
                      clear e_I117
                      exact ih189 _ (by omega) _ _ _ rfl (⟨j + 1, rfl, by omega, by omega, by omega, m6⟩)
                  exact L189 _ _ _ _ rfl (⟨0, rfl, rfl, by omega, by omega, hm⟩)
              exact L180 _ _ _ rfl (⟨0, rfl, by omega, by rw [show i = 9 by omega] at hm; exact hm⟩)
            · have L136 : ∀ (n136 : Nat) (l3 : Int) (l4 : Int) (K136 : jx_I), n136 = (2 - l4).toNat → (∃ j : Nat, l3 = (i : Int) ∧ l4 = (j : Int) ∧ i < 9 ∧ j ≤ 2 ∧ MVo I K136 a0 a1 (24 + 2 * i + j)) → J136 l3 l4 K136 := by
                intro n136
                induction n136 using Nat.strongRecOn with
                | ind n136 ih136 =>
                intro l3 l4 K136 hn136 hI136
                obtain ⟨j, rfl, rfl, hi, hj, hm⟩ := hI136
                refine hJ136 _ _ _ ?_
                unfold wz_322_136
                refine ⟨by omega, ?_⟩
                refine ⟨fun hq8 => ?_, fun hq8 => ?_⟩
                · exact ih127 _ (by omega) _ _ rfl (⟨i + 1, by omega, by omega, by rw [show 24 + 2 * (i + 1) = 24 + 2 * i + j by omega]; exact hm⟩)
                · refine ⟨s_M_0 hM, _, r_M_31 hM, _, ⟨s_M_1305 hM, by decide⟩, by omega, _, rr_M_1305 hM (by omega), by omega, _, rr_M_1305 hM (by omega), _, ⟨sr_M_1305 hM (by omega), by decide⟩, ?_⟩
                  try simp only [-eq_self, Int.toNat_natCast]
                  refine ⟨by omega, ?_⟩
                  refine ⟨_, cz_321p (k := 24 + 2 * i + j) hV hM hs (by omega) hm.1 (by omega) (jy_rng _) h2, ?_⟩
                  rintro _ I67 ⟨rfl, h41, hv, h1, h2k, h3⟩
                  refine ⟨_, rfl, ?_⟩
                  refine ⟨_, ⟨sr_M_1305 hM (by omega), by decide⟩, ?_⟩
                  try simp only [-eq_self, Int.toNat_natCast]
                  refine ⟨by omega, ?_⟩
                  intro I72 e_I72
                  have m5 : MVo I I72 a0 a1 ((24 + 2 * i + j) + 1) := MVo_s hm hx (by omega) (mad_l (by omega) (by omega)) (by omega) h41 hv h1 h2k h3 e_I72
                  clear e_I72
                  exact ih136 _ (by omega) _ _ _ rfl (⟨j + 1, rfl, by omega, by omega, by omega, m5⟩)
              exact L136 _ _ _ _ rfl (⟨0, rfl, rfl, by omega, by omega, hm⟩)
          exact L127 _ _ _ rfl (⟨0, rfl, by omega, by rw [show i = 12 by omega] at hm; exact hm⟩)
        · refine ⟨s_M_0 hM, _, r_M_35 hM, _, ⟨s_M_1345 hM, by decide⟩, ?_⟩
          try simp only [-eq_self, Int.toNat_natCast]
          refine ⟨by omega, ?_⟩
          refine ⟨_, cz_321p (k := 12 + i) hV hM hs (by omega) hm.1 (by omega) (jy_rng _) h2, ?_⟩
          rintro _ I45 ⟨rfl, h41, hv, h1, h2k, h3⟩
          refine ⟨_, rfl, ?_⟩
          refine ⟨by omega, ?_⟩
          intro I48 e_I48
          have m5 : MVo I I48 a0 a1 ((12 + i) + 1) := MVo_s hm hx (by omega) (mad_j (by omega)) (by omega) h41 hv h1 h2k h3 e_I48
          clear e_I48
          exact ih95 _ (by omega) _ _ rfl (⟨i + 1, by omega, by omega, m5⟩)
      exact L95 _ _ _ rfl (⟨0, rfl, by omega, by rw [show i = 8 by omega] at hm; exact hm⟩)
    · refine ⟨s_M_0 hM, _, r_M_34 hM, _, ⟨s_M_1344 hM, by decide⟩, ?_⟩
      try simp only [-eq_self, Int.toNat_natCast]
      refine ⟨by omega, ?_⟩
      refine ⟨_, cz_321p (k := 4 + i) hV hM hs (by omega) hm.1 (by omega) (jy_rng _) h2, ?_⟩
      rintro _ I32 ⟨rfl, h41, hv, h1, h2k, h3⟩
      refine ⟨_, rfl, ?_⟩
      refine ⟨by omega, ?_⟩
      intro I35 e_I35
      have m5 : MVo I I35 a0 a1 ((4 + i) + 1) := MVo_s hm hx (by omega) (mad_r (by omega)) (by omega) h41 hv h1 h2k h3 e_I35
      clear e_I35
      exact ih63 _ (by omega) _ _ rfl (⟨i + 1, by omega, by omega, m5⟩)
  exact L63 _ _ _ rfl (⟨0, rfl, by omega, m4⟩)
/-- GrievingCamelsModel.movesAll -/
theorem cz_322g {V : jx_V} (hV : V.1.stackTraces = false) {X : jx_X} {R : jx_R} {I : jx_I} {a0 : Nat} {a1 : Nat} {a2 : Int} 
    (hM : MX X R a0) (hs : X.2.1 a1 = some (100, 4042)) (hx : a1 = a0 + 1341 ∨ a1 = a0 + 1342 ∨ a1 = a0 + 1343) (h2 : a2 = 1)
    {QE : String → jx_I → Prop} : jc V 2 322 (0, 0) [.ref a0, .ref a1, jy a2] X I R (fun rv I' => rv = none ∧ MVi I I' a0 a1 4042) QE := by
  refine wm_322 hV (by omega)  (fun J63 J95 J127 J136 J180 J189 J258 J267 hJJ => ?_)
  obtain ⟨hJ63, hJ95, hJ127, hJ136, hJ180, hJ189, hJ258, hJ267⟩ := hJJ
  unfold wz_322
  refine ⟨s_M_0 hM, ?_⟩
  intro I2 e_I2
  have m0 : MVi I I2 a0 a1 0 := (MVi_0 e_I2 rfl)
  clear e_I2
  refine ⟨_, cz_321g (k := 0) hV hM hs (by omega) m0.1 (by omega) (jy_rng _) h2, ?_⟩
  rintro _ I5 ⟨rfl, h41, h2k, h3⟩
  refine ⟨_, rfl, ?_⟩
  intro I7 e_I7
  have m1 : MVi I I7 a0 a1 (0 + 1) := MVi_s m0 hx (by omega) (show mad 0 = (0, 36) by decide) rfl h41 h2k h3 e_I7
  clear e_I7
  refine ⟨_, cz_321g (k := 1) hV hM hs (by omega) m1.1 (by omega) (jy_rng _) h2, ?_⟩
  rintro _ I10 ⟨rfl, h41, h2k, h3⟩
  refine ⟨_, rfl, ?_⟩
  intro I12 e_I12
  have m2 : MVi I I12 a0 a1 (1 + 1) := MVi_s m1 hx (by omega) (show mad 1 = (0, 37) by decide) rfl h41 h2k h3 e_I12
  clear e_I12
  refine ⟨_, cz_321g (k := 2) hV hM hs (by omega) m2.1 (by omega) (jy_rng _) h2, ?_⟩
  rintro _ I15 ⟨rfl, h41, h2k, h3⟩
  refine ⟨_, rfl, ?_⟩
  intro I17 e_I17
  have m3 : MVi I I17 a0 a1 (2 + 1) := MVi_s m2 hx (by omega) (show mad 2 = (0, 38) by decide) rfl h41 h2k h3 e_I17
  clear e_I17
  refine ⟨_, cz_321g (k := 3) hV hM hs (by omega) m3.1 (by omega) (jy_rng _) h2, ?_⟩
  rintro _ I20 ⟨rfl, h41, h2k, h3⟩
  refine ⟨_, rfl, ?_⟩
  intro I22 e_I22
  have m4 : MVi I I22 a0 a1 (3 + 1) := MVi_s m3 hx (by omega) (show mad 3 = (0, 39) by decide) rfl h41 h2k h3 e_I22
  clear e_I22
  have L63 : ∀ (n63 : Nat) (l3 : Int) (K63 : jx_I), n63 = (8 - l3).toNat → (∃ i : Nat, l3 = (i : Int) ∧ i ≤ 8 ∧ MVi I K63 a0 a1 (4 + i)) → J63 l3 K63 := by
    intro n63
    induction n63 using Nat.strongRecOn with
    | ind n63 ih63 =>
    intro l3 K63 hn63 hI63
    obtain ⟨i, rfl, hi, hm⟩ := hI63
    refine hJ63 _ _ ?_
    unfold wz_322_63
    refine ⟨by omega, ?_⟩
    refine ⟨fun hq1 => ?_, fun hq1 => ?_⟩
    · have L95 : ∀ (n95 : Nat) (l3 : Int) (K95 : jx_I), n95 = (12 - l3).toNat → (∃ i : Nat, l3 = (i : Int) ∧ i ≤ 12 ∧ MVi I K95 a0 a1 (12 + i)) → J95 l3 K95 := by
        intro n95
        induction n95 using Nat.strongRecOn with
        | ind n95 ih95 =>
        intro l3 K95 hn95 hI95
        obtain ⟨i, rfl, hi, hm⟩ := hI95
        refine hJ95 _ _ ?_
        unfold wz_322_95
        refine ⟨by omega, ?_⟩
        refine ⟨fun hq2 => ?_, fun hq2 => ?_⟩
        · have L127 : ∀ (n127 : Nat) (l3 : Int) (K127 : jx_I), n127 = (9 - l3).toNat → (∃ i : Nat, l3 = (i : Int) ∧ i ≤ 9 ∧ MVi I K127 a0 a1 (24 + 2 * i)) → J127 l3 K127 := by
            intro n127
            induction n127 using Nat.strongRecOn with
            | ind n127 ih127 =>
            intro l3 K127 hn127 hI127
            obtain ⟨i, rfl, hi, hm⟩ := hI127
            refine hJ127 _ _ ?_
            unfold wz_322_127
            refine ⟨by omega, ?_⟩
            refine ⟨fun hq3 => ?_, fun hq3 => ?_⟩
            · have L180 : ∀ (n180 : Nat) (l3 : Int) (K180 : jx_I), n180 = (8 - l3).toNat → (∃ i : Nat, l3 = (i : Int) ∧ i ≤ 8 ∧ MVi I K180 a0 a1 (42 + 20 * i)) → J180 l3 K180 := by
                intro n180
                induction n180 using Nat.strongRecOn with
                | ind n180 ih180 =>
                intro l3 K180 hn180 hI180
                obtain ⟨i, rfl, hi, hm⟩ := hI180
                refine hJ180 _ _ ?_
                unfold wz_322_180
                refine ⟨by omega, ?_⟩
                refine ⟨fun hq4 => ?_, fun hq4 => ?_⟩
                · have L258 : ∀ (n258 : Nat) (l3 : Int) (K258 : jx_I), n258 = (24 - l3).toNat → (∃ i : Nat, l3 = (i : Int) ∧ i ≤ 24 ∧ MVi I K258 a0 a1 (202 + 160 * i)) → J258 l3 K258 := by
                    intro n258
                    induction n258 using Nat.strongRecOn with
                    | ind n258 ih258 =>
                    intro l3 K258 hn258 hI258
                    obtain ⟨i, rfl, hi, hm⟩ := hI258
                    refine hJ258 _ _ ?_
                    unfold wz_322_258
                    refine ⟨by omega, ?_⟩
                    refine ⟨fun hq5 => ?_, fun hq5 => ?_⟩
                    · rw [show i = 24 by omega] at hm
                      exact ⟨rfl, hm⟩
                    · have L267 : ∀ (n267 : Nat) (l3 : Int) (l4 : Int) (K267 : jx_I), n267 = (160 - l4).toNat → (∃ j : Nat, l3 = (i : Int) ∧ l4 = (j : Int) ∧ i < 24 ∧ j ≤ 160 ∧ MVi I K267 a0 a1 (202 + 160 * i + j)) → J267 l3 l4 K267 := by
                        intro n267
                        induction n267 using Nat.strongRecOn with
                        | ind n267 ih267 =>
                        intro l3 l4 K267 hn267 hI267
                        obtain ⟨j, rfl, rfl, hi, hj, hm⟩ := hI267
                        refine hJ267 _ _ _ ?_
                        unfold wz_322_267
                        refine ⟨by omega, ?_⟩
                        refine ⟨fun hq6 => ?_, fun hq6 => ?_⟩
                        · exact ih258 _ (by omega) _ _ rfl (⟨i + 1, by omega, by omega, by rw [show 202 + 160 * (i + 1) = 202 + 160 * i + j by omega]; exact hm⟩)
                        · refine ⟨s_M_0 hM, _, r_M_32 hM, _, ⟨s_M_1315 hM, by decide⟩, by omega, _, rr_M_1315 hM (by omega), by omega, _, rr_M_1315 hM (by omega), _, ⟨sr_M_1315 hM (by omega), by decide⟩, ?_⟩
                          try simp only [-eq_self, Int.toNat_natCast]
                          refine ⟨by omega, ?_⟩
                          refine ⟨_, cz_321g (k := 202 + 160 * i + j) hV hM hs (by omega) hm.1 (by omega) (jy_rng _) h2, ?_⟩
                          rintro _ I136 ⟨rfl, h41, h2k, h3⟩
                          refine ⟨_, rfl, ?_⟩
                          refine ⟨_, ⟨sr_M_1315 hM (by omega), by decide⟩, ?_⟩
                          try simp only [-eq_self, Int.toNat_natCast]
                          refine ⟨by omega, ?_⟩
                          intro I141 e_I141
                          have m5 : MVi I I141 a0 a1 ((202 + 160 * i + j) + 1) := MVi_s hm hx (by omega) (mad_u (by omega) (by omega)) (by omega) h41 h2k h3 e_I141
                          clear e_I141
                          exact ih267 _ (by omega) _ _ _ rfl (⟨j + 1, rfl, by omega, by omega, by omega, m5⟩)
                      exact L267 _ _ _ _ rfl (⟨0, rfl, rfl, by omega, by omega, hm⟩)
                  exact L258 _ _ _ rfl (⟨0, rfl, by omega, by rw [show i = 8 by omega] at hm; exact hm⟩)
                · have L189 : ∀ (n189 : Nat) (l3 : Int) (l4 : Int) (K189 : jx_I), n189 = (10 - l4).toNat → (∃ j : Nat, l3 = (i : Int) ∧ l4 = (j : Int) ∧ i < 8 ∧ j ≤ 10 ∧ MVi I K189 a0 a1 (42 + 20 * i + 2 * j)) → J189 l3 l4 K189 := by
                    intro n189
                    induction n189 using Nat.strongRecOn with
                    | ind n189 ih189 =>
                    intro l3 l4 K189 hn189 hI189
                    obtain ⟨j, rfl, rfl, hi, hj, hm⟩ := hI189
                    refine hJ189 _ _ _ ?_
                    unfold wz_322_189
                    refine ⟨by omega, ?_⟩
                    refine ⟨fun hq7 => ?_, fun hq7 => ?_⟩
                    · exact ih180 _ (by omega) _ _ rfl (⟨i + 1, by omega, by omega, by rw [show 42 + 20 * (i + 1) = 42 + 20 * i + 2 * j by omega]; exact hm⟩)
                    · refine ⟨s_M_0 hM, _, r_M_29 hM, _, ⟨s_M_1287 hM, by decide⟩, by omega, _, rr_M_1287 hM (by omega), by omega, _, rr_M_1287 hM (by omega), _, ⟨sr_M_1287 hM (by omega), by decide⟩, ?_⟩
                      try simp only [-eq_self, Int.toNat_natCast]
                      refine ⟨by omega, ?_⟩
                      refine ⟨_, cz_321g (k := 42 + 20 * i + 2 * j) hV hM hs (by omega) hm.1 (by omega) (jy_rng _) h2, ?_⟩
                      rintro _ I91 ⟨rfl, h41, h2k, h3⟩
                      refine ⟨_, rfl, ?_⟩
                      refine ⟨_, ⟨sr_M_1287 hM (by omega), by decide⟩, ?_⟩
                      try simp only [-eq_self, Int.toNat_natCast]
                      refine ⟨by omega, ?_⟩
                      intro I96 e_I96
                      have m5 : MVi I I96 a0 a1 ((42 + 20 * i + 2 * j) + 1) := MVi_s hm hx (by omega) (mad_g (by omega) (by omega)) (by omega) h41 h2k h3 e_I96
                      clear e_I96
                      refine ⟨_, r_M_30 hM, _, ⟨s_M_1296 hM, by decide⟩, by omega, _, rr_M_1296 hM (by omega), by omega, _, rr_M_1296 hM (by omega), _, ⟨sr_M_1296 hM (by omega), by decide⟩, ?_⟩
                      try simp only [-eq_self, Int.toNat_natCast]
                      refine ⟨by omega, ?_⟩
                      refine ⟨_, cz_321g (k := 42 + 20 * i + 2 * j + 1) hV hM hs (by omega) m5.1 (by omega) (jy_rng _) h2, ?_⟩
                      rintro _ I112 ⟨rfl, h41, h2k, h3⟩
                      refine ⟨_, rfl, ?_⟩
                      refine ⟨_, ⟨sr_M_1296 hM (by omega), by decide⟩, ?_⟩
                      try simp only [-eq_self, Int.toNat_natCast]
                      refine ⟨by omega, ?_⟩
                      intro I117 e_I117
                      have m6 : MVi I I117 a0 a1 ((42 + 20 * i + 2 * j + 1) + 1) := MVi_s m5 hx (by omega) (mad_d (by omega) (by omega)) (by omega) h41 h2k h3 e_I117
                      clear e_I117
                      exact ih189 _ (by omega) _ _ _ rfl (⟨j + 1, rfl, by omega, by omega, by omega, m6⟩)
                  exact L189 _ _ _ _ rfl (⟨0, rfl, rfl, by omega, by omega, hm⟩)
              exact L180 _ _ _ rfl (⟨0, rfl, by omega, by rw [show i = 9 by omega] at hm; exact hm⟩)
            · have L136 : ∀ (n136 : Nat) (l3 : Int) (l4 : Int) (K136 : jx_I), n136 = (2 - l4).toNat → (∃ j : Nat, l3 = (i : Int) ∧ l4 = (j : Int) ∧ i < 9 ∧ j ≤ 2 ∧ MVi I K136 a0 a1 (24 + 2 * i + j)) → J136 l3 l4 K136 := by
                intro n136
                induction n136 using Nat.strongRecOn with
                | ind n136 ih136 =>
                intro l3 l4 K136 hn136 hI136
                obtain ⟨j, rfl, rfl, hi, hj, hm⟩ := hI136
                refine hJ136 _ _ _ ?_
                unfold wz_322_136
                refine ⟨by omega, ?_⟩
                refine ⟨fun hq8 => ?_, fun hq8 => ?_⟩
                · exact ih127 _ (by omega) _ _ rfl (⟨i + 1, by omega, by omega, by rw [show 24 + 2 * (i + 1) = 24 + 2 * i + j by omega]; exact hm⟩)
                · refine ⟨s_M_0 hM, _, r_M_31 hM, _, ⟨s_M_1305 hM, by decide⟩, by omega, _, rr_M_1305 hM (by omega), by omega, _, rr_M_1305 hM (by omega), _, ⟨sr_M_1305 hM (by omega), by decide⟩, ?_⟩
                  try simp only [-eq_self, Int.toNat_natCast]
                  refine ⟨by omega, ?_⟩
                  refine ⟨_, cz_321g (k := 24 + 2 * i + j) hV hM hs (by omega) hm.1 (by omega) (jy_rng _) h2, ?_⟩
                  rintro _ I67 ⟨rfl, h41, h2k, h3⟩
                  refine ⟨_, rfl, ?_⟩
                  refine ⟨_, ⟨sr_M_1305 hM (by omega), by decide⟩, ?_⟩
                  try simp only [-eq_self, Int.toNat_natCast]
                  refine ⟨by omega, ?_⟩
                  intro I72 e_I72
                  have m5 : MVi I I72 a0 a1 ((24 + 2 * i + j) + 1) := MVi_s hm hx (by omega) (mad_l (by omega) (by omega)) (by omega) h41 h2k h3 e_I72
                  clear e_I72
                  exact ih136 _ (by omega) _ _ _ rfl (⟨j + 1, rfl, by omega, by omega, by omega, m5⟩)
              exact L136 _ _ _ _ rfl (⟨0, rfl, rfl, by omega, by omega, hm⟩)
          exact L127 _ _ _ rfl (⟨0, rfl, by omega, by rw [show i = 12 by omega] at hm; exact hm⟩)
        · refine ⟨s_M_0 hM, _, r_M_35 hM, _, ⟨s_M_1345 hM, by decide⟩, ?_⟩
          try simp only [-eq_self, Int.toNat_natCast]
          refine ⟨by omega, ?_⟩
          refine ⟨_, cz_321g (k := 12 + i) hV hM hs (by omega) hm.1 (by omega) (jy_rng _) h2, ?_⟩
          rintro _ I45 ⟨rfl, h41, h2k, h3⟩
          refine ⟨_, rfl, ?_⟩
          refine ⟨by omega, ?_⟩
          intro I48 e_I48
          have m5 : MVi I I48 a0 a1 ((12 + i) + 1) := MVi_s hm hx (by omega) (mad_j (by omega)) (by omega) h41 h2k h3 e_I48
          clear e_I48
          exact ih95 _ (by omega) _ _ rfl (⟨i + 1, by omega, by omega, m5⟩)
      exact L95 _ _ _ rfl (⟨0, rfl, by omega, by rw [show i = 8 by omega] at hm; exact hm⟩)
    · refine ⟨s_M_0 hM, _, r_M_34 hM, _, ⟨s_M_1344 hM, by decide⟩, ?_⟩
      try simp only [-eq_self, Int.toNat_natCast]
      refine ⟨by omega, ?_⟩
      refine ⟨_, cz_321g (k := 4 + i) hV hM hs (by omega) hm.1 (by omega) (jy_rng _) h2, ?_⟩
      rintro _ I32 ⟨rfl, h41, h2k, h3⟩
      refine ⟨_, rfl, ?_⟩
      refine ⟨by omega, ?_⟩
      intro I35 e_I35
      have m5 : MVi I I35 a0 a1 ((4 + i) + 1) := MVi_s hm hx (by omega) (mad_r (by omega)) (by omega) h41 h2k h3 e_I35
      clear e_I35
      exact ih63 _ (by omega) _ _ rfl (⟨i + 1, by omega, by omega, m5⟩)
  exact L63 _ _ _ rfl (⟨0, rfl, by omega, m4⟩)
