/-! ===== the reference: least, widest ===== -/
theorem pth_len {l : LT} {h : Nat → Int} {t : Nat} : ∀ f x, (pth l h t f x).length ≤ f + 1
  | 0, x => Nat.le_refl _
  | f + 1, x => by
    unfold pth
    split
    · simp
    · simp only [List.length_cons]; have := pth_len (l := l) (h := h) (t := t) f (nx l h t x); omega
theorem pl_len (l : LT) (h : Nat → Int) (t x : Nat) : (pl l h t x).length ≤ (dst l h x t).toNat + 1 := pth_len _ _
/-- GrievingCamelsModel.least -/
theorem cz_269 {V : jx_V} (hV : V.1.stackTraces = false) {X : jx_X} {R : jx_R} {I : jx_I} {a0 : Nat} {a1 : Int} {a2 : Int} {a3 : Int} {l : LT} {c : CT} 
    (hM : MX X R a0) (hX : MSX I a0 l c) (hW : WT l) (hC : WC l c) (r_a1 : -2147483648 ≤ a1 ∧ a1 < 2147483648) (r_a2 : -2147483648 ≤ a2 ∧ a2 < 2147483648) (r_a3 : -2147483648 ≤ a3 ∧ a3 < 2147483648)
    {QE : String → jx_I → Prop} : jc V 5 269 (0, 0) [.ref a0, jy a1, jy a2, jy a3] X I R (fun rv I' => (nzw ((0 ≤ a1 ∧ a1 < (Ln l : Nat)) ∧ (0 ≤ a2 ∧ a2 < (Ln l : Nat))) 0 1 (nzw (0 ≤ a3 ∧ a3 ≤ 2) 2 2 (none)) = none ∧ rv = some (.long (lsa l c a1.toNat a2.toNat a3)) ∧ (I' a0 0).toInt = 0 ∧ FK a0 SCR I I') ∨ (∃ k w, nzw ((0 ≤ a1 ∧ a1 < (Ln l : Nat)) ∧ (0 ≤ a2 ∧ a2 < (Ln l : Nat))) 0 1 (nzw (0 ≤ a3 ∧ a3 ≤ 2) 2 2 (none)) = some (k, w) ∧ I' = RM (jx_u I a0 0 (Int32.ofInt 0)) a0 k w ∧ ∃ x : Int64, rv = some (.long x))) QE := by
  have hW0 := hW.1
  have hW0 := hW.1
  refine wm_269 hV (by omega) (by omega) (by omega)  (fun J27 J50 J93 J102 hJJ => ?_)
  obtain ⟨hJ27, hJ50, hJ93, hJ102⟩ := hJJ
  unfold wz_269
  refine ⟨s_M_0 hM, ?_⟩
  intro I2 e_I2; subst e_I2
  have hX0 := MSX_0 (v := Int32.ofInt 0) hX hW
  have h00 : (jx_u I a0 0 (Int32.ofInt 0) a0 0).toInt = 0 := by rw [jx_u_s]; rfl
  refine ⟨_, cz_232 hV hM hX0.1 hW (by omega), ?_⟩
  rintro _ I5 ⟨rfl, e9⟩; replace e9 := e9.symm; subst e9
  refine ⟨_, rfl, ?_⟩
  refine ⟨by omega, ?_⟩
  refine ⟨fun hq1 => ?_, fun hq1 => ?_⟩
  · have c1 := bi_f hq1
    refine hJ27 _ _ _ ?_
    unfold wz_269_27
    refine ⟨s_M_0 hM, ?_⟩
    refine ⟨_, cz_202b hV hM h00 (by omega) (by omega), ?_⟩
    rintro _ I16 ⟨rfl, e9⟩; replace e9 := e9.symm; subst e9
    refine ⟨_, rfl, ?_⟩
    refine ⟨by omega, ?_⟩
    refine ⟨fun hq2 => ?_, fun hq2 => ?_⟩
    · exact Or.inr ⟨_, _, by exact nzw_f (fun k => c1 k.1), rfl, _, rfl⟩
    · exact absurd hq2 (by decide)
  · have c1 := bi_t hq1
    refine ⟨_, cz_232 hV hM hX0.1 hW (by omega), ?_⟩
    rintro _ I10 ⟨rfl, e9⟩; replace e9 := e9.symm; subst e9
    refine ⟨_, rfl, ?_⟩
    refine ⟨by omega, ?_⟩
    refine ⟨fun hq3 => ?_, fun hq3 => ?_⟩
    · have c2 := bi_t hq3
      refine hJ27 _ _ _ ?_
      unfold wz_269_27
      refine ⟨s_M_0 hM, ?_⟩
      refine ⟨_, cz_202o hV hM h00 (by omega) (by omega), ?_⟩
      rintro _ I16 ⟨rfl, e9⟩; replace e9 := e9.symm; subst e9
      refine ⟨_, rfl, ?_⟩
      refine ⟨by omega, ?_⟩
      refine ⟨fun hq4 => ?_, fun hq4 => ?_⟩
      · exact absurd hq4 (by decide)
      · refine ⟨_, cz_203 hV (by omega) (by omega) (by omega), ?_⟩
        rintro _ I21 ⟨rfl, e9⟩; replace e9 := e9.symm; subst e9
        refine ⟨_, rfl, ?_⟩
        refine ⟨by omega, ?_⟩
        refine ⟨fun hq5 => ?_, fun hq5 => ?_⟩
        · have c3 := bi_t hq5
          refine hJ50 _ _ _ ?_
          unfold wz_269_50
          refine ⟨s_M_0 hM, ?_⟩
          refine ⟨_, cz_202o hV hM h00 (by omega) (by omega), ?_⟩
          rintro _ I27 ⟨rfl, e9⟩; replace e9 := e9.symm; subst e9
          refine ⟨_, rfl, ?_⟩
          refine ⟨by omega, ?_⟩
          refine ⟨fun hq6 => ?_, fun hq6 => ?_⟩
          · refine ⟨s_M_0 hM, ?_⟩
            refine ⟨_, cz_243 hV hM hX0.1 hW hX0.2.1 (GDn_w hW hC) hC.2.1.2 (WC_8 hW hC), ?_⟩
            rintro _ I33 ⟨rfl, hN1, hF1⟩
            refine ⟨rfl, ?_⟩
            refine ⟨_, cz_268 (t := a2.toNat) (h := hh l c) hV hM (FK_MD hX0.1 hF1 (by decide) hW) hW hN1 (GDn_w hW hC) hC.2.1.2 (WC_8 hW hC) (by omega) (by omega) rfl, ?_⟩
            rintro _ I37 ⟨rfl, hu, hFE⟩
            refine ⟨rfl, ?_⟩
            have hFK := FK_trans hF1 (FE_k (ks := [46]) hFE)
            have hdr := dst_r hW (HP_hh l c) (a := a1.toNat) (b := a2.toNat) (by omega) (by omega)
            have hD9 := FK_MD hX0.1 hFK (by decide) hW
            have hN9 := FE_MN hN1 hFE hW
            refine ⟨_, r_M_50 hM, _, ⟨s_M_1367 hM, by decide⟩, ?_⟩
            try simp only [-eq_self, hu a1.toNat (by omega)]
            refine ⟨by omega, ?_⟩
            refine ⟨fun hq7 => ?_, fun hq7 => ?_⟩
            · have L93 : ∀ (n93 : Nat) (l4 : Int64) (l6 : Int) (l7 : Int) (K1 : jx_I), n93 = (dst l (hh l c) l6.toNat a2.toNat).toNat → (∃ (P : List Nat) (y : Nat), l4 = lN (dec (P ++ [y])) ∧ l6 = (y : Int) ∧ l7 = ((P ++ [y]).length : Int) ∧ pl l (hh l c) a2.toNat a1.toNat = P ++ pl l (hh l c) a2.toNat y ∧ y < Ln l ∧ dst l (hh l c) y a2.toNat ≠ -1 ∧ FR (a0 + 1286) (a0 + 1287) I37 K1) → J93 l4 l6 l7 K1 := by
                intro n93
                induction n93 using Nat.strongRecOn with
                | ind n93 ih93 =>
                intro l4 l6 l7 K1 hn93 hI93
                obtain ⟨P, y, rfl, rfl, rfl, hpl, hy, hdy, hFR9⟩ := hI93
                have hFE9 : FE a0 I37 K1 := fun q h1 h2 => hFR9 q (by omega)
                refine hJ93 _ _ _ _ ?_
                unfold wz_269_93
                refine ⟨by omega, ?_⟩
                refine ⟨fun hq8 => ?_, fun hq8 => ?_⟩
                · refine ⟨fun hq9 => ?_, fun hq9 => ?_⟩
                  · refine ⟨fun hq10 => ?_, fun hq10 => ?_⟩
                    · have hyt : y = a2.toNat := by omega
                      rw [hyt, pl_t hW (HP_hh l c) (by omega)] at hpl
                      rw [hyt]
                      have hFK := FK_trans hFK (FE_k (ks := [46]) hFE9)
                      exact Or.inl ⟨by rw [nzw_t (And.intro c1 c2), nzw_t c3], by unfold lsa; rw [if_neg (by omega), if_neg (by omega), hpl], by rw [hFK.2 0 (by decide)]; exact h00, FK_trans FK_0 (FK_mono hFK (by decide))⟩
                    · have hyt : y = a2.toNat := by omega
                      rw [hyt, pl_t hW (HP_hh l c) (by omega)] at hpl
                      rw [hyt]
                      have hFK := FK_trans hFK (FE_k (ks := [46]) hFE9)
                      have hln := pl_len l (hh l c) a2.toNat a1.toNat
                      rw [hpl] at hln
                      exact Or.inl ⟨by rw [nzw_t (And.intro c1 c2), nzw_t c3], by unfold lsa; rw [if_neg (by omega), if_pos (by omega), hpl, jz_ofI, nI_l (by omega)], by rw [hFK.2 0 (by decide)]; exact h00, FK_trans FK_0 (FK_mono hFK (by decide))⟩
                  · refine ⟨s_M_0 hM, _, r_M_50 hM, _, ⟨s_M_1367 hM, by decide⟩, ?_⟩
                    have hu9 : (K1 (a0 + 1367) a1.toNat).toInt = dst l (hh l c) a1.toNat a2.toNat := by rw [hFR9 _ (by omega)]; exact hu a1.toNat (by omega)
                    try simp only [-eq_self, hu9]
                    refine ⟨by omega, ?_⟩
                    have hFK := FK_trans hFK (FE_k (ks := [46]) hFE9)
                    exact Or.inl ⟨by rw [nzw_t (And.intro c1 c2), nzw_t c3], by unfold lsa; rw [if_pos (Or.inl (by omega))], by rw [hFK.2 0 (by decide)]; exact h00, FK_trans FK_0 (FK_mono hFK (by decide))⟩
                · have hFR8 := hFR9
                  have hyt : y ≠ a2.toNat := by omega
                  have hnx := nx_ok hW (HP_hh l c) hy (show a2.toNat < Ln l by omega) hyt hdy
                  obtain ⟨q0, hq0, hq1⟩ := nx_ex hW (HP_hh l c) hy (show a2.toNat < Ln l by omega) hyt hdy
                  have hsp : nxq l (hh l c) a2.toNat y (nx l (hh l c) a2.toNat y) = true := (fs_sp (P := nxq l (hh l c) a2.toNat y) (Ln l) 0 q0 hq1 (by omega) (by omega)).1
                  have L102 : ∀ (n102 : Nat) (l4 : Int64) (l6 : Int) (l7 : Int) (l8 : Int) (K2 : jx_I), n102 = (((nx l (hh l c) a2.toNat y : Nat) : Int) - l8).toNat → (∃ i : Nat, l4 = lN (dec (P ++ [y])) ∧ l6 = (y : Int) ∧ l7 = ((P ++ [y]).length : Int) ∧ l8 = (i : Int) ∧ i ≤ nx l (hh l c) a2.toNat y ∧ (∀ q, q < i → nxq l (hh l c) a2.toNat y q = false) ∧ FR (a0 + 1286) (a0 + 1287) I37 K2) → J102 l4 l6 l7 l8 K2 := by
                    intro n102
                    induction n102 using Nat.strongRecOn with
                    | ind n102 ih102 =>
                    intro l4 l6 l7 l8 K2 hn102 hI102
                    obtain ⟨i, rfl, rfl, rfl, rfl, hi, hq9, hFR9⟩ := hI102
                    have hFE9 : FE a0 I37 K2 := fun q h1 h2 => hFR9 q (by omega)
                    have hD10 := FE_MD hD9 hFE9 hW
                    have hr9 : ∀ q, q < Ln l → (K2 (a0 + 25 + y) q).toInt = Lr l y q := fun q hq => hD10.2.2.1 y q hy hq
                    have hl9 : ∀ q, q < Ln l → (K2 (a0 + 1367) q).toInt = dst l (hh l c) q a2.toNat := fun q hq => by rw [hFR9 _ (by omega)]; exact hu q hq
                    have hiN : i < Ln l := by omega
                    refine hJ102 _ _ _ _ _ ?_
                    unfold wz_269_102
                    refine ⟨s_M_0 hM, _, r_M_21 hM, _, ⟨s_M_24 hM, by decide⟩, by omega, _, rr_M_24 hM (by omega), _, ⟨sr_M_24 hM (by omega), by decide⟩, ?_⟩
                    try simp only [-eq_self, Int.toNat_natCast, hr9 i (by omega)]
                    refine ⟨by omega, ?_⟩
                    refine ⟨fun hq11 => ?_, fun hq11 => ?_⟩
                    · have hnq : nxq l (hh l c) a2.toNat y i = false := by unfold nxq; exact decide_eq_false (fun k => k.1 hq11)
                      have hne9 : i ≠ nx l (hh l c) a2.toNat y := fun e => by rw [← e, hnq] at hsp; exact absurd hsp (by decide)
                      exact ih102 _ (by omega) _ _ _ _ _ rfl (⟨i + 1, rfl, rfl, rfl, by omega, by omega, fun q h => by
                        rcases Nat.lt_or_ge q i with h9 | h9
                        · exact hq9 q h9
                        · rw [show q = i by omega]; exact hnq, hFR9⟩)
                    · refine ⟨_, r_M_50 hM, _, ⟨s_M_1367 hM, by decide⟩, ?_⟩
                      try simp only [-eq_self, Int.toNat_natCast, hl9 i (by omega)]
                      refine ⟨by omega, ?_⟩
                      refine ⟨fun hq12 => ?_, fun hq12 => ?_⟩
                      · have hnq : nxq l (hh l c) a2.toNat y i = false := by unfold nxq; exact decide_eq_false (fun k => k.2.1 hq12)
                        have hne9 : i ≠ nx l (hh l c) a2.toNat y := fun e => by rw [← e, hnq] at hsp; exact absurd hsp (by decide)
                        exact ih102 _ (by omega) _ _ _ _ _ rfl (⟨i + 1, rfl, rfl, rfl, by omega, by omega, fun q h => by
                          rcases Nat.lt_or_ge q i with h9 | h9
                          · exact hq9 q h9
                          · rw [show q = i by omega]; exact hnq, hFR9⟩)
                      · refine ⟨by omega, _, rr_M_24 hM (by omega), _, ⟨sr_M_24 hM (by omega), by decide⟩, ?_⟩
                        try simp only [-eq_self, Int.toNat_natCast, hr9 i (by omega)]
                        refine ⟨by omega, ?_⟩
                        refine ⟨_, cz_246 (p := i) hV hM (FE_MD hD9 hFE9 hW) hW (FE_MN hN9 hFE9 hW) (GDn_w hW hC) hC.2.1.2 (WC_8 hW hC) rfl (by omega), ?_⟩
                        rintro _ I75 ⟨rfl, hF2⟩
                        refine ⟨_, rfl, ?_⟩
                        have hKu : ∀ q, q < Ln l → (I75 (a0 + 1367) q).toInt = dst l (hh l c) q a2.toNat := fun q hq => by rw [hF2 _ (by omega), hFR9 _ (by omega)]; exact hu q hq
                        have hhi : hlt (Lc l) ((CL c).map (Cg c i)) (nd (Lk l i)) = hh l c i := rfl
                        have hHi := HP_hh l c i (by omega)
                        have hri := (hW.2.2.1 y i hy (by omega)).1
                        have hdi := dst_r hW (HP_hh l c) (a := i) (b := a2.toNat) (by omega) (by omega)
                        have hdy2 := dst_r hW (HP_hh l c) (a := y) (b := a2.toNat) (by omega) (by omega)
                        simp only [-eq_self, Int.toNat_natCast, hKu i (by omega), hKu y hy, hhi]
                        refine ⟨by omega, by omega, by omega, ?_⟩
                        refine ⟨fun hq13 => ?_, fun hq13 => ?_⟩
                        · have hn9 : nxq l (hh l c) a2.toNat y i = true := by unfold nxq; exact decide_eq_true ⟨hq11, hq12, hq13⟩
                          have e9 : nx l (hh l c) a2.toNat y = i := by unfold nx; exact fs_eq hn9 (Ln l) 0 (fun q _ hq => hq9 q hq) (by omega) (by omega)
                          rw [e9] at hnx
                          have hm1 : dst l (hh l c) (i : Int).toNat a2.toNat = dst l (hh l c) i a2.toNat := by rw [Int.toNat_natCast]
                          have hm2 : dst l (hh l c) (y : Int).toNat a2.toNat = dst l (hh l c) y a2.toNat := by rw [Int.toNat_natCast]
                          have hnx3 := hnx.2.2
                          have hnx2 := hnx.2.1
                          exact ih93 _ (by omega) _ _ _ _ rfl (⟨P ++ [y], i, by rw [jz_ofI, nI_l (by omega), dec_app (P ++ [y]) i, show (10 : Int64) = lN 10 from rfl, lN_mul, lN_add, Nat.mul_comm 10], rfl, by rw [List.length_append (as := P ++ [y])]; rfl, by rw [hpl, pl_s hW (HP_hh l c) hy (show a2.toNat < Ln l by omega) hyt hdy, e9, List.append_assoc]; rfl, hiN, hnx.2.1, FR_to hFR9 hF2 (by omega) (by omega)⟩)
                        · have hnq : nxq l (hh l c) a2.toNat y i = false := by unfold nxq; exact decide_eq_false (fun k => hq13 k.2.2)
                          have hne9 : i ≠ nx l (hh l c) a2.toNat y := fun e => by rw [← e, hnq] at hsp; exact absurd hsp (by decide)
                          exact ih102 _ (by omega) _ _ _ _ _ rfl (⟨i + 1, rfl, rfl, rfl, by omega, by omega, fun q h => by
                            rcases Nat.lt_or_ge q i with h9 | h9
                            · exact hq9 q h9
                            · rw [show q = i by omega]; exact hnq, (FR_to hFR9 hF2 (by omega) (by omega))⟩)
                  exact L102 _ _ _ _ _ _ rfl (⟨0, rfl, rfl, rfl, rfl, by omega, fun q h => absurd h (by omega), hFR8⟩)
              exact L93 _ _ _ _ _ rfl (⟨[], a1.toNat, by rw [List.nil_append]; show (Int32.ofInt a1).toInt64 = lN (0 * 10 + a1.toNat); rw [show 0 * 10 + a1.toNat = a1.toNat by omega, ← nI_l (by omega), ← jz_ofI, Int.toNat_of_nonneg (by omega)], by omega, rfl, rfl, by omega, hq7, FR_refl⟩)
            · have hq8 : dst l (hh l c) a1.toNat a2.toNat = -1 := by omega
              exact Or.inl ⟨by rw [nzw_t (And.intro c1 c2), nzw_t c3], by unfold lsa; rw [if_pos (Or.inr hq8), hq8]; rfl, by rw [hFK.2 0 (by decide)]; exact h00, FK_trans FK_0 (FK_mono hFK (by decide))⟩
          · exact absurd hq6 (by decide)
        · have c3 := bi_f hq5
          refine hJ50 _ _ _ ?_
          unfold wz_269_50
          refine ⟨s_M_0 hM, ?_⟩
          refine ⟨_, cz_202b hV hM h00 (by omega) (by omega), ?_⟩
          rintro _ I27 ⟨rfl, e9⟩; replace e9 := e9.symm; subst e9
          refine ⟨_, rfl, ?_⟩
          refine ⟨by omega, ?_⟩
          refine ⟨fun hq14 => ?_, fun hq14 => ?_⟩
          · exact absurd hq14 (by decide)
          · exact Or.inr ⟨_, _, by rw [nzw_t (⟨c1, c2⟩)]; exact nzw_f c3, rfl, _, rfl⟩
    · have c2 := bi_f hq3
      refine hJ27 _ _ _ ?_
      unfold wz_269_27
      refine ⟨s_M_0 hM, ?_⟩
      refine ⟨_, cz_202b hV hM h00 (by omega) (by omega), ?_⟩
      rintro _ I16 ⟨rfl, e9⟩; replace e9 := e9.symm; subst e9
      refine ⟨_, rfl, ?_⟩
      refine ⟨by omega, ?_⟩
      refine ⟨fun hq15 => ?_, fun hq15 => ?_⟩
      · exact Or.inr ⟨_, _, by exact nzw_f (fun k => c2 k.2), rfl, _, rfl⟩
      · exact absurd hq15 (by decide)
/-- GrievingCamelsModel.widest -/
theorem cz_270 {V : jx_V} (hV : V.1.stackTraces = false) {X : jx_X} {R : jx_R} {I : jx_I} {a0 : Nat} {a1 : Int} {l : LT} {c : CT} 
    (hM : MX X R a0) (hX : MSX I a0 l c) (hW : WT l) (hC : WC l c) (r_a1 : -2147483648 ≤ a1 ∧ a1 < 2147483648)
    {QE : String → jx_I → Prop} : jc V 5 270 (0, 0) [.ref a0, jy a1] X I R (fun rv I' => (nzw (0 ≤ a1 ∧ a1 ≤ 1) 2 1 (none) = none ∧ rv = some (jy (if a1 = 0 then (wdo l (hh l c) (Ln l)).1 else (wdo l (hh l c) (Ln l)).2)) ∧ (I' a0 0).toInt = 0 ∧ FK a0 SCR I I') ∨ (∃ k w, nzw (0 ≤ a1 ∧ a1 ≤ 1) 2 1 (none) = some (k, w) ∧ I' = RM (jx_u I a0 0 (Int32.ofInt 0)) a0 k w ∧ ∃ x : Int, rv = some (jy x))) QE := by
  have hW0 := hW.1
  have hW0 := hW.1
  refine wm_270 hV (by omega)  (fun J20 J41 J55 J113 hJJ => ?_)
  obtain ⟨hJ20, hJ41, hJ55, hJ113⟩ := hJJ
  unfold wz_270
  refine ⟨s_M_0 hM, ?_⟩
  intro I2 e_I2; subst e_I2
  have hX0 := MSX_0 (v := Int32.ofInt 0) hX hW
  have h00 : (jx_u I a0 0 (Int32.ofInt 0) a0 0).toInt = 0 := by rw [jx_u_s]; rfl
  refine ⟨_, cz_203 hV (by omega) (by omega) (by omega), ?_⟩
  rintro _ I5 ⟨rfl, e9⟩; replace e9 := e9.symm; subst e9
  refine ⟨_, rfl, ?_⟩
  refine ⟨by omega, ?_⟩
  refine ⟨fun hq1 => ?_, fun hq1 => ?_⟩
  · have c1 := bi_t hq1
    refine hJ20 _ _ _ ?_
    unfold wz_270_20
    refine ⟨s_M_0 hM, ?_⟩
    refine ⟨_, cz_202o hV hM h00 (by omega) (by omega), ?_⟩
    rintro _ I11 ⟨rfl, e9⟩; replace e9 := e9.symm; subst e9
    refine ⟨_, rfl, ?_⟩
    refine ⟨by omega, ?_⟩
    refine ⟨fun hq2 => ?_, fun hq2 => ?_⟩
    · refine ⟨s_M_0 hM, ?_⟩
      refine ⟨_, cz_243 hV hM hX0.1 hW hX0.2.1 (GDn_w hW hC) hC.2.1.2 (WC_8 hW hC), ?_⟩
      rintro _ I17 ⟨rfl, hN1, hF1⟩
      refine ⟨rfl, ?_⟩
      have hD9 := FK_MD hX0.1 hF1 (by decide) hW
      have L41 : ∀ (n41 : Nat) (l2 : Int) (l3 : Int) (l4 : Int) (K1 : jx_I), n41 = ((Ln l : Int) - l4).toNat → (∃ i : Nat, l4 = (i : Int) ∧ i ≤ Ln l ∧ l2 = (wdo l (hh l c) i).2 ∧ l3 = (wdo l (hh l c) i).1 ∧ FE a0 I17 K1) → J41 l2 l3 l4 K1 := by
        intro n41
        induction n41 using Nat.strongRecOn with
        | ind n41 ih41 =>
        intro l2 l3 l4 K1 hn41 hI41
        obtain ⟨i, rfl, hi, rfl, rfl, hFE9⟩ := hI41
        have hD10 := FE_MD hD9 hFE9 hW
        have h40 := hD10.1.1
        have hwk := wdo_k hW (HP_hh l c) i hi
        unfold wdk at hwk
        refine hJ41 _ _ _ _ ?_
        unfold wz_270_41
        refine ⟨s_M_0 hM, _, r_M_11 hM, _, ⟨s_M_4 hM, by decide⟩, ?_⟩
        try simp only [-eq_self, show (0 : Int).toNat = 0 from rfl, h40]
        refine ⟨by omega, by omega, ?_⟩
        refine ⟨fun hq3 => ?_, fun hq3 => ?_⟩
        · refine ⟨fun hq4 => ?_, fun hq4 => ?_⟩
          · rw [show i = Ln l by omega]
            have hFK := FK_trans hF1 (FE_k (ks := [46]) hFE9)
            exact Or.inl ⟨nzw_t c1, by rw [if_neg (by omega)], by rw [hFK.2 0 (by decide)]; exact h00, FK_trans FK_0 (FK_mono hFK (by decide))⟩
          · rw [show i = Ln l by omega]
            have hFK := FK_trans hF1 (FE_k (ks := [46]) hFE9)
            exact Or.inl ⟨nzw_t c1, by rw [if_pos (by omega)], by rw [hFK.2 0 (by decide)]; exact h00, FK_trans FK_0 (FK_mono hFK (by decide))⟩
        · have L55 : ∀ (n55 : Nat) (l2 : Int) (l3 : Int) (l4 : Int) (l5 : Int) (K2 : jx_I), n55 = ((Ln l : Int) - l5).toNat → (∃ j : Nat, l4 = (i : Int) ∧ l5 = (j : Int) ∧ i < Ln l ∧ j ≤ Ln l ∧ l2 = (wdr l (hh l c) i j (wdo l (hh l c) i)).2 ∧ l3 = (wdr l (hh l c) i j (wdo l (hh l c) i)).1 ∧ FE a0 I17 K2) → J55 l2 l3 l4 l5 K2 := by
            intro n55
            induction n55 using Nat.strongRecOn with
            | ind n55 ih55 =>
            intro l2 l3 l4 l5 K2 hn55 hI55
            obtain ⟨j, rfl, rfl, hi, hj, rfl, rfl, hFE9⟩ := hI55
            have hD10 := FE_MD hD9 hFE9 hW
            have h40 := hD10.1.1
            have hwk := wdr_k hW (HP_hh l c) hi (wdo_k hW (HP_hh l c) i (by omega)) j hj
            unfold wdk at hwk
            refine hJ55 _ _ _ _ _ ?_
            unfold wz_270_55
            refine ⟨s_M_0 hM, _, r_M_11 hM, _, ⟨s_M_4 hM, by decide⟩, ?_⟩
            try simp only [-eq_self, show (0 : Int).toNat = 0 from rfl, h40]
            refine ⟨by omega, by omega, ?_⟩
            refine ⟨fun hq5 => ?_, fun hq5 => ?_⟩
            · exact ih41 _ (by omega) _ _ _ _ rfl (⟨i + 1, by omega, by omega, by rw [show j = Ln l by omega]; rfl, by rw [show j = Ln l by omega]; rfl, hFE9⟩)
            · refine ⟨by omega, ?_⟩
              refine ⟨fun hq6 => ?_, fun hq6 => ?_⟩
              · refine ⟨_, cz_268 (t := j) (h := hh l c) hV hM hD10 hW (FE_MN hN1 hFE9 hW) (GDn_w hW hC) hC.2.1.2 (WC_8 hW hC) rfl (by omega) rfl, ?_⟩
                rintro _ I36 ⟨rfl, hu, hFE⟩
                refine ⟨rfl, ?_⟩
                have hui := hu i hi
                have hdi := dst_r hW (HP_hh l c) (a := i) (b := j) hi (by omega)
                simp only [-eq_self, Int.toNat_natCast, hui]
                refine ⟨_, r_M_50 hM, _, ⟨s_M_1367 hM, by decide⟩, ?_⟩
                try simp only [-eq_self, Int.toNat_natCast, hui]
                refine ⟨by omega, by omega, ?_⟩
                refine ⟨fun hq7 => ?_, fun hq7 => ?_⟩
                · refine ⟨by omega, ?_⟩
                  refine hJ113 _ _ _ _ _ ?_
                  unfold wz_270_113
                  exact ih55 _ (by omega) _ _ _ _ _ rfl (⟨j + 1, rfl, by omega, hi, by omega, by rw [wdr_y ⟨by omega, by omega⟩]; show 10 * (i : Int) + (j : Int) = (i : Int) * 10 + (j : Int); omega, by rw [wdr_y ⟨by omega, by omega⟩], (fun q h1 h2 => (hFE q h1 h2).trans (hFE9 q h1 h2))⟩)
                · refine hJ113 _ _ _ _ _ ?_
                  unfold wz_270_113
                  exact ih55 _ (by omega) _ _ _ _ _ rfl (⟨j + 1, rfl, by omega, hi, by omega, by rw [wdr_n (fun k => absurd k.2 (by omega))], by rw [wdr_n (fun k => absurd k.2 (by omega))], (fun q h1 h2 => (hFE q h1 h2).trans (hFE9 q h1 h2))⟩)
              · refine hJ113 _ _ _ _ _ ?_
                unfold wz_270_113
                exact ih55 _ (by omega) _ _ _ _ _ rfl (⟨j + 1, rfl, by omega, hi, by omega, by rw [wdr_n (by omega)], by rw [wdr_n (by omega)], hFE9⟩)
          exact L55 _ _ _ _ _ _ rfl (⟨0, rfl, rfl, by omega, by omega, rfl, rfl, hFE9⟩)
      exact L41 _ _ _ _ _ rfl (⟨0, rfl, by omega, rfl, rfl, fun _ _ _ => rfl⟩)
    · exact absurd hq2 (by decide)
  · have c1 := bi_f hq1
    refine hJ20 _ _ _ ?_
    unfold wz_270_20
    refine ⟨s_M_0 hM, ?_⟩
    refine ⟨_, cz_202b hV hM h00 (by omega) (by omega), ?_⟩
    rintro _ I11 ⟨rfl, e9⟩; replace e9 := e9.symm; subst e9
    refine ⟨_, rfl, ?_⟩
    refine ⟨by omega, ?_⟩
    refine ⟨fun hq8 => ?_, fun hq8 => ?_⟩
    · exact absurd hq8 (by decide)
    · exact Or.inr ⟨_, _, by exact nzw_f c1, rfl, _, rfl⟩
