/-! ===== the reference: rows compared ===== -/
theorem gmx_s (g : GT) (p B n : Nat) : gmx g p B (n + 1) = if bN B n = 1 then max (gmx g p B n) (g p n) else gmx g p B n := by
  unfold gmx
  rcases bN_01 B n with e | e
  · rw [bl_0 e, if_neg (by omega)]
  · rw [bl_1 (by omega), if_pos e, List.foldl_append]; rfl
theorem wlr_s (g : GT) (p B : Nat) (x : Int) (n : Nat) : wlr g p B x (n + 1) = if bN B n = 1 then wlr g p B x n + max 0 (x - g p n) else wlr g p B x n := by
  unfold wlr
  rcases bN_01 B n with e | e
  · rw [bl_0 e, if_neg (by omega)]
  · rw [bl_1 (by omega), if_pos e, List.foldl_append]; rfl
theorem bl_top {B m : Nat} (h : B < 2 ^ m) : ∀ n, m ≤ n → bl B n = bl B m := by
  intro n hn
  induction n with
  | zero => rw [show m = 0 by omega]
  | succ n ih =>
    rcases Nat.lt_or_ge n m with h1 | h1
    · rw [show m = n + 1 by omega]
    · have h2 : B.testBit n = false := Nat.testBit_lt_two_pow (Nat.lt_of_lt_of_le h (Nat.pow_le_pow_right (by omega) h1))
      rw [bN_t] at h2
      have h3 := bN_01 B n
      have h4 : bN B n = 0 := by
        rcases h3 with h3 | h3
        · exact h3
        · rw [h3] at h2; exact absurd h2 (by decide)
      rw [bl_0 h4]
      exact ih h1
theorem wlr_rng {g d : GT} (hG : GD g d) {p B : Nat} (hp : p < 10) {x : Int} (hx : 0 ≤ x ∧ x ≤ 20) : ∀ n, n ≤ 8 → 0 ≤ wlr g p B x n ∧ wlr g p B x n ≤ 20 * n
  | 0, _ => ⟨Int.le_refl _, Int.le_refl _⟩
  | n + 1, hn => by
    have h1 := wlr_rng hG (p := p) (B := B) hp hx n (by omega)
    have h2 := (hG p n hp (by omega)).1
    rw [wlr_s]
    split <;> omega
theorem cpv_rng {l : LT} {g d : GT} (hG : GD g d) (A B : Nat) : ∀ n, n ≤ 10 → 0 ≤ cpv l g A B n ∧ cpv l g A B n ≤ 320 * n
  | 0, _ => ⟨Int.le_refl _, Int.le_refl _⟩
  | n + 1, hn => by
    have h1 := cpv_rng (l := l) hG A B n (by omega)
    have a1 := gmx_rng hG (p := n) (B := A) (by omega) 8 (by omega)
    have a2 := gmx_rng hG (p := n) (B := B) (by omega) 8 (by omega)
    have b1 := wlr_rng hG (p := n) (B := A) (by omega) (x := gmx g n B 8 / 2) (by omega) 8 (by omega)
    have b2 := wlr_rng hG (p := n) (B := B) (by omega) (x := gmx g n A 8 / 2) (by omega) 8 (by omega)
    unfold cpv
    omega
/-- GrievingCamelsModel.mostOf -/
theorem cz_287 {V : jx_V} (hV : V.1.stackTraces = false) {X : jx_X} {R : jx_R} {I : jx_I} {a0 : Nat} {a1 : Int} {a2 : Int} {l : LT} {c : CT} {B p : Nat}
    (hM : MX X R a0) (hX : MSX I a0 l c) (hW : WT l) (hC : WC l c) (h1 : a1 = (B : Int)) (hB : B < 2 ^ Lm l) (h2 : a2 = (p : Int)) (hp : p < Ln l)
    {QE : String → jx_I → Prop} : jc V 1 287 (0, 0) [.ref a0, jy a1, jy a2] X I R (fun rv I' => rv = some (jy (gmx (Cg c) p B 8)) ∧ I' = I) QE := by
  have hW0 := hW.1
  have h256 : 2 ^ Lm l ≤ 2 ^ 8 := Nat.pow_le_pow_right (by omega) hW.1.2
  refine wm_287 hV (by omega) (by omega)  (fun J5 J52 hJJ => ?_)
  obtain ⟨hJ5, hJ52⟩ := hJJ
  have hn := hW.1
  have hm4 : (I (a0 + 4) 1).toInt = Lm l := hX.1.1.2
  unfold wz_287
  have L5 : ∀ (n5 : Nat) (l3 : Int) (l4 : Int) (K : jx_I), n5 = ((Lm l : Int) - l4).toNat → (∃ j : Nat, l4 = j ∧ j ≤ Lm l ∧ l3 = gmx (Cg c) p B j ∧ K = I) → J5 l3 l4 K := by
    intro n5
    induction n5 using Nat.strongRecOn with
    | ind n5 ih5 =>
    intro l3 l4 K hn5 hI5
    obtain ⟨j, rfl, hj, rfl, rfl⟩ := hI5
    have hgr := gmx_rng hC.1 (p := p) (B := B) (by omega) j (by omega)
    have hgs := gmx_s (Cg c) p B j
    have h01 := bN_01 B j
    refine hJ5 _ _ _ ?_
    unfold wz_287_5
    refine ⟨s_M_0 hM, _, r_M_11 hM, _, ⟨s_M_4 hM, by decide⟩, ?_⟩
    try simp only [-eq_self, show (1 : Int).toNat = 1 from rfl, hm4]
    refine ⟨by omega, by omega, ?_⟩
    refine ⟨fun hq1 => ?_, fun hq1 => ?_⟩
    · refine ⟨?_, rfl⟩
      unfold gmx
      rw [bl_top hB 8 hn.2, show Lm l = j by omega]
    · have hbit := jz_bit (B := B) (k := j) (by omega) (by omega)
      simp only [-eq_self, h1, hbit]
      have hgv : (K (a0 + 1288 + j) p).toInt = Cg c p j := hX.2.1.2.1 p j hp (by omega)
      refine ⟨fun hq2 => ?_, fun hq2 => ?_⟩
      · refine hJ52 _ _ _ ?_
        unfold wz_287_52
        exact ih5 _ (by omega) _ _ _ rfl (⟨j + 1, by omega, by omega, by rw [hgs, if_neg (by omega)], rfl⟩)
      · refine ⟨_, r_M_29 hM, _, ⟨s_M_1287 hM, by decide⟩, by omega, _, rr_M_1287 hM (by omega), _, ⟨sr_M_1287 hM (by omega), by decide⟩, ?_⟩
        try simp only [-eq_self, h2, Int.toNat_natCast, hgv]
        refine ⟨by omega, by omega, ?_⟩
        refine ⟨fun hq3 => ?_, fun hq3 => ?_⟩
        · refine hJ52 _ _ _ ?_
          unfold wz_287_52
          exact ih5 _ (by omega) _ _ _ rfl (⟨j + 1, by omega, by omega, by rw [hgs, if_pos (by omega)]; omega, rfl⟩)
        · refine ⟨by omega, _, rr_M_1287 hM (by omega), _, ⟨sr_M_1287 hM (by omega), by decide⟩, ?_⟩
          try simp only [-eq_self, h2, Int.toNat_natCast, hgv]
          refine ⟨by omega, ?_⟩
          refine hJ52 _ _ _ ?_
          unfold wz_287_52
          exact ih5 _ (by omega) _ _ _ rfl (⟨j + 1, by omega, by omega, by rw [hgs, if_pos (by omega)]; omega, rfl⟩)
  exact L5 _ _ _ _ rfl (⟨0, rfl, by omega, rfl, rfl⟩)
/-- GrievingCamelsModel.compared -/
theorem cz_288 {V : jx_V} (hV : V.1.stackTraces = false) {X : jx_X} {R : jx_R} {I : jx_I} {a0 : Nat} {a1 : Int} {a2 : Int} {l : LT} {c : CT} 
    (hM : MX X R a0) (hX : MSX I a0 l c) (hW : WT l) (hC : WC l c) (r_a1 : -2147483648 ≤ a1 ∧ a1 < 2147483648) (r_a2 : -2147483648 ≤ a2 ∧ a2 < 2147483648)
    {QE : String → jx_I → Prop} : jc V 3 288 (0, 0) [.ref a0, jy a1, jy a2] X I R (fun rv I' => (nzw (((0 ≤ a1 ∧ a1 < ((2 ^ Lm l : Nat) : Int)) ∧ (0 ≤ a2 ∧ a2 < ((2 ^ Lm l : Nat) : Int))) ∧ a1.toNat &&& a2.toNat = 0) 2 1 (none) = none ∧ rv = some (jy (cpv l (Cg c) a1.toNat a2.toNat (Ln l))) ∧ (I' a0 0).toInt = 0 ∧ FK a0 SCR I I') ∨ (∃ k w, nzw (((0 ≤ a1 ∧ a1 < ((2 ^ Lm l : Nat) : Int)) ∧ (0 ≤ a2 ∧ a2 < ((2 ^ Lm l : Nat) : Int))) ∧ a1.toNat &&& a2.toNat = 0) 2 1 (none) = some (k, w) ∧ I' = RM (jx_u I a0 0 (Int32.ofInt 0)) a0 k w ∧ ∃ x : Int, rv = some (jy x))) QE := by
  have hW0 := hW.1
  have hW0 := hW.1
  have h256 : 2 ^ Lm l ≤ 2 ^ 8 := Nat.pow_le_pow_right (by omega) hW.1.2
  refine wm_288 hV (by omega) (by omega)  (fun J33 J48 J84 J126 J161 hJJ => ?_)
  obtain ⟨hJ33, hJ48, hJ84, hJ126, hJ161⟩ := hJJ
  have hn := hW.1
  unfold wz_288
  refine ⟨s_M_0 hM, ?_⟩
  intro I2 e_I2; subst e_I2
  have hX0 := MSX_0 (v := Int32.ofInt 0) hX hW
  have h00 : (jx_u I a0 0 (Int32.ofInt 0) a0 0).toInt = 0 := by rw [jx_u_s]; rfl
  refine ⟨_, cz_250 hV hM hX0.1 hW (by omega), ?_⟩
  rintro _ I5 ⟨rfl, e9⟩; replace e9 := e9.symm; subst e9
  refine ⟨_, rfl, ?_⟩
  refine ⟨by omega, ?_⟩
  refine ⟨fun hq1 => ?_, fun hq1 => ?_⟩
  · have c1 := bi_f hq1
    refine hJ33 _ _ _ ?_
    unfold wz_288_33
    refine ⟨s_M_0 hM, ?_⟩
    refine ⟨_, cz_202b hV hM h00 (by omega) (by omega), ?_⟩
    rintro _ I16 ⟨rfl, e9⟩; replace e9 := e9.symm; subst e9
    refine ⟨_, rfl, ?_⟩
    refine ⟨by omega, ?_⟩
    refine ⟨fun hq2 => ?_, fun hq2 => ?_⟩
    · exact absurd hq2 (by decide)
    · exact Or.inr ⟨_, _, nzw_f (fun k => c1 k.1.1), rfl, _, rfl⟩
  · have c1 := bi_t hq1
    refine ⟨_, cz_250 hV hM hX0.1 hW (by omega), ?_⟩
    rintro _ I10 ⟨rfl, e9⟩; replace e9 := e9.symm; subst e9
    refine ⟨_, rfl, ?_⟩
    refine ⟨by omega, ?_⟩
    refine ⟨fun hq3 => ?_, fun hq3 => ?_⟩
    · have c2 := bi_f hq3
      refine hJ33 _ _ _ ?_
      unfold wz_288_33
      refine ⟨s_M_0 hM, ?_⟩
      refine ⟨_, cz_202b hV hM h00 (by omega) (by omega), ?_⟩
      rintro _ I16 ⟨rfl, e9⟩; replace e9 := e9.symm; subst e9
      refine ⟨_, rfl, ?_⟩
      refine ⟨by omega, ?_⟩
      refine ⟨fun hq4 => ?_, fun hq4 => ?_⟩
      · exact absurd hq4 (by decide)
      · exact Or.inr ⟨_, _, nzw_f (fun k => c2 k.1.2), rfl, _, rfl⟩
    · have c2 := bi_t hq3
      have hand := jz_and (a := a1.toNat) (b := a2.toNat) (by omega) (by omega)
      rw [show (a1.toNat : Int) = a1 by omega, show (a2.toNat : Int) = a2 by omega] at hand
      try simp only [-eq_self, hand]
      refine ⟨fun hq5 => ?_, fun hq5 => ?_⟩
      · refine hJ33 _ _ _ ?_
        unfold wz_288_33
        refine ⟨s_M_0 hM, ?_⟩
        refine ⟨_, cz_202o hV hM h00 (by omega) (by omega), ?_⟩
        rintro _ I16 ⟨rfl, e9⟩; replace e9 := e9.symm; subst e9
        refine ⟨_, rfl, ?_⟩
        refine ⟨by omega, ?_⟩
        refine ⟨fun hq6 => ?_, fun hq6 => ?_⟩
        · have L48 : ∀ (n48 : Nat) (l3 : Int) (l4 : Int) (K : jx_I), n48 = ((Ln l : Int) - l4).toNat → (∃ k : Nat, l4 = k ∧ k ≤ Ln l ∧ l3 = cpv l (Cg c) a1.toNat a2.toNat k ∧ K = jx_u I a0 0 (Int32.ofInt 0)) → J48 l3 l4 K := by
            intro n48
            induction n48 using Nat.strongRecOn with
            | ind n48 ih48 =>
            intro l3 l4 K hn48 hI48
            obtain ⟨k, rfl, hk, rfl, rfl⟩ := hI48
            refine hJ48 _ _ _ ?_
            unfold wz_288_48
            refine ⟨s_M_0 hM, _, r_M_11 hM, _, ⟨s_M_4 hM, by decide⟩, ?_⟩
            have hn4 : (jx_u I a0 0 (Int32.ofInt 0) (a0 + 4) 0).toInt = Ln l := hX0.1.1.1
            try simp only [-eq_self, show (0 : Int).toNat = 0 from rfl, hn4]
            refine ⟨by omega, by omega, ?_⟩
            refine ⟨fun hq7 => ?_, fun hq7 => ?_⟩
            · rw [show k = Ln l by omega]
              exact Or.inl ⟨nzw_t ⟨⟨c1, c2⟩, by omega⟩, rfl, h00, FK_0⟩
            · have hgr1 := gmx_rng hC.1 (p := k) (B := a1.toNat) (by omega) 8 (by omega)
              have hgr2 := gmx_rng hC.1 (p := k) (B := a2.toNat) (by omega) 8 (by omega)
              have hd1 := jz_div2 (x := gmx (Cg c) k a1.toNat 8) (by omega)
              have hd2 := jz_div2 (x := gmx (Cg c) k a2.toNat 8) (by omega)
              refine ⟨_, cz_287 (B := a2.toNat) (p := k) hV hM hX0 hW hC (by omega) (by omega) rfl (by omega), ?_⟩
              rintro _ I28 ⟨rfl, e9⟩; replace e9 := e9.symm; subst e9
              refine ⟨_, rfl, ?_⟩
              refine ⟨_, cz_287 (B := a1.toNat) (p := k) hV hM hX0 hW hC (by omega) (by omega) rfl (by omega), ?_⟩
              rintro _ I32 ⟨rfl, e9⟩; replace e9 := e9.symm; subst e9
              refine ⟨_, rfl, ?_⟩
              simp only [-eq_self, hd1, hd2]
              have L84 : ∀ (n84 : Nat) (l3 : Int) (l4 : Int) (l5 : Int) (l6 : Int) (l7 : Int) (K2 : jx_I), n84 = ((Lm l : Int) - l7).toNat → (∃ j : Nat, l4 = (k : Int) ∧ l7 = j ∧ j ≤ Lm l ∧ l5 = (gmx (Cg c) k a2.toNat 8 / 2) ∧ l6 = (gmx (Cg c) k a1.toNat 8 / 2) ∧ l3 = cpv l (Cg c) a1.toNat a2.toNat k + wlr (Cg c) k a1.toNat (gmx (Cg c) k a2.toNat 8 / 2) j + wlr (Cg c) k a2.toNat (gmx (Cg c) k a1.toNat 8 / 2) j ∧ K2 = jx_u I a0 0 (Int32.ofInt 0)) → J84 l3 l4 l5 l6 l7 K2 := by
                intro n84
                induction n84 using Nat.strongRecOn with
                | ind n84 ih84 =>
                intro l3 l4 l5 l6 l7 K2 hn84 hI84
                obtain ⟨j, rfl, rfl, hj, rfl, rfl, rfl, rfl⟩ := hI84
                have hcr := cpv_rng (l := l) hC.1 a1.toNat a2.toNat k (by omega)
                refine hJ84 _ _ _ _ _ _ ?_
                unfold wz_288_84
                refine ⟨s_M_0 hM, _, r_M_11 hM, _, ⟨s_M_4 hM, by decide⟩, ?_⟩
                have hm4 : (jx_u I a0 0 (Int32.ofInt 0) (a0 + 4) 1).toInt = Lm l := hX0.1.1.2
                try simp only [-eq_self, show (1 : Int).toNat = 1 from rfl, hm4]
                refine ⟨by omega, by omega, ?_⟩
                refine ⟨fun hq8 => ?_, fun hq8 => ?_⟩
                · exact ih48 _ (by omega) _ _ _ rfl (⟨k + 1, by omega, by omega, by
                    show _ = cpv l (Cg c) a1.toNat a2.toNat k + wlr (Cg c) k a1.toNat (gmx (Cg c) k a2.toNat 8 / 2) 8 + wlr (Cg c) k a2.toNat (gmx (Cg c) k a1.toNat 8 / 2) 8
                    rw [show wlr (Cg c) k a1.toNat (gmx (Cg c) k a2.toNat 8 / 2) 8 = wlr (Cg c) k a1.toNat (gmx (Cg c) k a2.toNat 8 / 2) j from by unfold wlr; rw [bl_top (show a1.toNat < 2 ^ Lm l by omega) 8 hn.2, show Lm l = j by omega], show wlr (Cg c) k a2.toNat (gmx (Cg c) k a1.toNat 8 / 2) 8 = wlr (Cg c) k a2.toNat (gmx (Cg c) k a1.toNat 8 / 2) j from by unfold wlr; rw [bl_top (show a2.toNat < 2 ^ Lm l by omega) 8 hn.2, show Lm l = j by omega]], rfl⟩)
                · have hb1 := jz_bit (B := a1.toNat) (k := j) (by omega) (by omega)
                  have hb2 := jz_bit (B := a2.toNat) (k := j) (by omega) (by omega)
                  rw [show (a1.toNat : Int) = a1 by omega] at hb1
                  rw [show (a2.toNat : Int) = a2 by omega] at hb2
                  have o1 := bN_01 a1.toNat j
                  have o2 := bN_01 a2.toNat j
                  have hgv : (jx_u I a0 0 (Int32.ofInt 0) (a0 + 1288 + j) k).toInt = Cg c k j := hX0.2.1.2.1 k j (by omega) (by omega)
                  have hgp := (hC.1 k j (by omega) (by omega)).1
                  have w1 := wlr_rng hC.1 (p := k) (B := a1.toNat) (by omega) (x := (gmx (Cg c) k a2.toNat 8 / 2)) (by omega) j (by omega)
                  have w2 := wlr_rng hC.1 (p := k) (B := a2.toNat) (by omega) (x := (gmx (Cg c) k a1.toNat 8 / 2)) (by omega) j (by omega)
                  have v1 := wlr_s (Cg c) k a1.toNat (gmx (Cg c) k a2.toNat 8 / 2) j
                  have v2 := wlr_s (Cg c) k a2.toNat (gmx (Cg c) k a1.toNat 8 / 2) j
                  have hboth : ¬ (bN a1.toNat j = 1 ∧ bN a2.toNat j = 1) := by
                    rintro ⟨y1, y2⟩
                    have t1 := bN_t a1.toNat j
                    have t2 := bN_t a2.toNat j
                    rw [y1] at t1
                    rw [y2] at t2
                    have t3 : (a1.toNat &&& a2.toNat).testBit j = true := by rw [Nat.testBit_and, t1, t2]; rfl
                    rw [show a1.toNat &&& a2.toNat = 0 by omega, Nat.zero_testBit] at t3
                    exact absurd t3 (by decide)
                  simp only [-eq_self, hb1, hb2]
                  refine ⟨fun hq9 => ?_, fun hq9 => ?_⟩
                  · refine ⟨fun hq10 => ?_, fun hq10 => ?_⟩
                    · refine hJ126 _ _ _ _ _ _ _ ?_
                      unfold wz_288_126
                      refine ⟨s_M_0 hM, _, r_M_29 hM, _, ⟨s_M_1287 hM, by decide⟩, by omega, _, rr_M_1287 hM (by omega), _, ⟨sr_M_1287 hM (by omega), by decide⟩, ?_⟩
                      try simp only [-eq_self, Int.toNat_natCast, hgv]
                      refine ⟨by omega, by omega, ?_⟩
                      refine ⟨fun hq11 => ?_, fun hq11 => ?_⟩
                      · refine hJ161 _ _ _ _ _ _ _ ?_
                        unfold wz_288_161
                        exact ih84 _ (by omega) _ _ _ _ _ _ rfl (⟨j + 1, rfl, by omega, by omega, rfl, rfl, by rw [v1, v2, if_neg (by omega), if_neg (by omega)]; omega, rfl⟩)
                      · refine ⟨by omega, _, rr_M_1287 hM (by omega), _, ⟨sr_M_1287 hM (by omega), by decide⟩, ?_⟩
                        try simp only [-eq_self, Int.toNat_natCast, hgv]
                        refine ⟨by omega, ?_⟩
                        refine hJ161 _ _ _ _ _ _ _ ?_
                        unfold wz_288_161
                        exact ih84 _ (by omega) _ _ _ _ _ _ rfl (⟨j + 1, rfl, by omega, by omega, rfl, rfl, by rw [v1, v2, if_neg (by omega), if_neg (by omega)]; omega, rfl⟩)
                    · refine hJ126 _ _ _ _ _ _ _ ?_
                      unfold wz_288_126
                      refine ⟨s_M_0 hM, _, r_M_29 hM, _, ⟨s_M_1287 hM, by decide⟩, by omega, _, rr_M_1287 hM (by omega), _, ⟨sr_M_1287 hM (by omega), by decide⟩, ?_⟩
                      try simp only [-eq_self, Int.toNat_natCast, hgv]
                      refine ⟨by omega, by omega, ?_⟩
                      refine ⟨fun hq12 => ?_, fun hq12 => ?_⟩
                      · refine hJ161 _ _ _ _ _ _ _ ?_
                        unfold wz_288_161
                        exact ih84 _ (by omega) _ _ _ _ _ _ rfl (⟨j + 1, rfl, by omega, by omega, rfl, rfl, by rw [v1, v2, if_neg (by omega), if_pos (by omega)]; omega, rfl⟩)
                      · refine ⟨by omega, _, rr_M_1287 hM (by omega), _, ⟨sr_M_1287 hM (by omega), by decide⟩, ?_⟩
                        try simp only [-eq_self, Int.toNat_natCast, hgv]
                        refine ⟨by omega, ?_⟩
                        refine hJ161 _ _ _ _ _ _ _ ?_
                        unfold wz_288_161
                        exact ih84 _ (by omega) _ _ _ _ _ _ rfl (⟨j + 1, rfl, by omega, by omega, rfl, rfl, by rw [v1, v2, if_neg (by omega), if_pos (by omega)]; omega, rfl⟩)
                  · refine hJ126 _ _ _ _ _ _ _ ?_
                    unfold wz_288_126
                    refine ⟨s_M_0 hM, _, r_M_29 hM, _, ⟨s_M_1287 hM, by decide⟩, by omega, _, rr_M_1287 hM (by omega), _, ⟨sr_M_1287 hM (by omega), by decide⟩, ?_⟩
                    try simp only [-eq_self, Int.toNat_natCast, hgv]
                    refine ⟨by omega, by omega, ?_⟩
                    refine ⟨fun hq13 => ?_, fun hq13 => ?_⟩
                    · refine hJ161 _ _ _ _ _ _ _ ?_
                      unfold wz_288_161
                      exact ih84 _ (by omega) _ _ _ _ _ _ rfl (⟨j + 1, rfl, by omega, by omega, rfl, rfl, by rw [v1, v2, if_pos (by omega), if_neg (by omega)]; omega, rfl⟩)
                    · refine ⟨by omega, _, rr_M_1287 hM (by omega), _, ⟨sr_M_1287 hM (by omega), by decide⟩, ?_⟩
                      try simp only [-eq_self, Int.toNat_natCast, hgv]
                      refine ⟨by omega, ?_⟩
                      refine hJ161 _ _ _ _ _ _ _ ?_
                      unfold wz_288_161
                      exact ih84 _ (by omega) _ _ _ _ _ _ rfl (⟨j + 1, rfl, by omega, by omega, rfl, rfl, by rw [v1, v2, if_pos (by omega), if_neg (by omega)]; omega, rfl⟩)
              exact L84 _ _ _ _ _ _ _ rfl (⟨0, rfl, rfl, by omega, rfl, rfl, by show _ = _ + (0 : Int) + 0; omega, rfl⟩)
          exact L48 _ _ _ _ rfl (⟨0, rfl, by omega, rfl, rfl⟩)
        · exact absurd hq6 (by decide)
      · refine hJ33 _ _ _ ?_
        unfold wz_288_33
        refine ⟨s_M_0 hM, ?_⟩
        refine ⟨_, cz_202b hV hM h00 (by omega) (by omega), ?_⟩
        rintro _ I16 ⟨rfl, e9⟩; replace e9 := e9.symm; subst e9
        refine ⟨_, rfl, ?_⟩
        refine ⟨by omega, ?_⟩
        refine ⟨fun hq14 => ?_, fun hq14 => ?_⟩
        · exact absurd hq14 (by decide)
        · exact Or.inr ⟨_, _, nzw_f (fun k => hq5 (by rw [k.2]; rfl)), rfl, _, rfl⟩
