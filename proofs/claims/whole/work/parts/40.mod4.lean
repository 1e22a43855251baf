/-! ===== the reference: races, what is learnt and forgotten, soon ===== -/
theorem nzw_n {P : Prop} [Decidable P] {k : Nat} {w : Int} {e : Option (Nat × Int)} (h : nzw P k w e = none) : P ∧ e = none := by
  by_cases hP : P
  · rw [nzw_t hP] at h; exact ⟨hP, h⟩
  · rw [nzw_f hP] at h; exact absurd h (by simp)
theorem GDn_it {l : LT} {J L : List Nat} {g d : GT} (h : GDn (Ln l) (Lm l) g d) (hJ : ∀ x ∈ J, x < Ln l) (hL : ∀ x ∈ L, x < Lm l) : ∀ k, GDn (Ln l) (Lm l) (itg l J L g d k).1 (itg l J L g d k).2
  | 0 => h
  | k + 1 => GDn_j (l := l) (GDn_it h hJ hL k) hJ hL (J.length - 1) (by omega)
/-- GrievingCamelsModel.badThree -/
theorem cz_294 {V : jx_V} (hV : V.1.stackTraces = false) {X : jx_X} {R : jx_R} {I : jx_I} {a0 : Nat} {a1 : Int} {a2 : Int} {l : LT} {c : CT}
    (hM : MX X R a0) (hX : MSX I a0 l c) (hW : WT l) (hC : WC l c) (h00 : (I a0 0).toInt = 0) (r_a1 : -2147483648 ≤ a1 ∧ a1 < 2147483648) (r_a2 : -2147483648 ≤ a2 ∧ a2 < 2147483648)
    {QE : String → jx_I → Prop} : jc V 3 294 (0, 0) [.ref a0, jy a1, jy a2] X I R (fun rv I' => ∃ r : Int, rv = some (jy r) ∧ ((r = 0 ∧ nzw (0 ≤ a1 ∧ a1 < (Ln l : Nat)) 0 1 (nzw (0 ≤ a2 ∧ a2 < (Lm l : Nat)) 1 2 (nzw (CJ c ≠ []) 3 3 (none))) = none ∧ I' = I) ∨ (r = 1 ∧ ∃ k w, nzw (0 ≤ a1 ∧ a1 < (Ln l : Nat)) 0 1 (nzw (0 ≤ a2 ∧ a2 < (Lm l : Nat)) 1 2 (nzw (CJ c ≠ []) 3 3 (none))) = some (k, w) ∧ I' = RM I a0 k w))) QE := by
  have hW0 := hW.1
  refine wm_294 hV (by omega) (by omega)  (fun J14 J36 J57 hJJ => ?_)
  obtain ⟨hJ14, hJ36, hJ57⟩ := hJJ
  have h37 := hX.2.2.1.1
  unfold wz_294
  refine ⟨s_M_0 hM, ?_⟩
  refine ⟨_, cz_232 hV hM hX.1 hW (by omega), ?_⟩
  rintro _ I4 ⟨rfl, e9⟩; replace e9 := e9.symm; subst e9
  refine ⟨_, rfl, ?_⟩
  refine ⟨by omega, ?_⟩
  refine ⟨fun hq1 => ?_, fun hq1 => ?_⟩
  · have c1 := bi_t hq1
    refine hJ14 _ _ _ ?_
    unfold wz_294_14
    refine ⟨s_M_0 hM, ?_⟩
    refine ⟨_, cz_202o hV hM h00 (by omega) (by omega), ?_⟩
    rintro _ I10 ⟨rfl, e9⟩; replace e9 := e9.symm; subst e9
    refine ⟨_, rfl, ?_⟩
    refine ⟨by omega, ?_⟩
    refine ⟨fun hq2 => ?_, fun hq2 => ?_⟩
    · exact absurd hq2 (by decide)
    · refine ⟨s_M_0 hM, ?_⟩
      refine ⟨_, cz_233 hV hM hX.1 hW (by omega), ?_⟩
      rintro _ I16 ⟨rfl, e9⟩; replace e9 := e9.symm; subst e9
      refine ⟨_, rfl, ?_⟩
      refine ⟨by omega, ?_⟩
      refine ⟨fun hq3 => ?_, fun hq3 => ?_⟩
      · have c2 := bi_t hq3
        refine hJ36 _ _ _ ?_
        unfold wz_294_36
        refine ⟨s_M_0 hM, ?_⟩
        refine ⟨_, cz_202o hV hM h00 (by omega) (by omega), ?_⟩
        rintro _ I22 ⟨rfl, e9⟩; replace e9 := e9.symm; subst e9
        refine ⟨_, rfl, ?_⟩
        refine ⟨by omega, ?_⟩
        refine ⟨fun hq4 => ?_, fun hq4 => ?_⟩
        · exact absurd hq4 (by decide)
        · refine ⟨s_M_0 hM, ?_⟩
          refine ⟨fun hq5 => ?_, fun hq5 => ?_⟩
          · refine hJ57 _ _ _ ?_
            unfold wz_294_57
            refine ⟨s_M_0 hM, ?_⟩
            refine ⟨_, cz_202o hV hM h00 (by omega) (by omega), ?_⟩
            rintro _ I29 ⟨rfl, e9⟩; replace e9 := e9.symm; subst e9
            refine ⟨_, rfl, ?_⟩
            refine ⟨by omega, ?_⟩
            refine ⟨fun hq6 => ?_, fun hq6 => ?_⟩
            · exact ⟨_, rfl, Or.inl ⟨rfl, by rw [nzw_t c1, nzw_t c2, nzw_t (show CJ c ≠ [] from fun e => by rw [e] at h37; exact hq5 h37)], rfl⟩⟩
            · exact absurd hq6 (by decide)
          · refine hJ57 _ _ _ ?_
            unfold wz_294_57
            refine ⟨s_M_0 hM, ?_⟩
            refine ⟨_, cz_202b hV hM h00 (by omega) (by omega), ?_⟩
            rintro _ I29 ⟨rfl, e9⟩; replace e9 := e9.symm; subst e9
            refine ⟨_, rfl, ?_⟩
            refine ⟨by omega, ?_⟩
            refine ⟨fun hq7 => ?_, fun hq7 => ?_⟩
            · exact absurd hq7 (by decide)
            · exact ⟨_, rfl, Or.inr ⟨rfl, _, _, by rw [nzw_t c1, nzw_t c2, nzw_f (show ¬ CJ c ≠ [] from fun k => k (List.eq_nil_of_length_eq_zero (by omega)))]; rfl, rfl⟩⟩
      · have c2 := bi_f hq3
        refine hJ36 _ _ _ ?_
        unfold wz_294_36
        refine ⟨s_M_0 hM, ?_⟩
        refine ⟨_, cz_202b hV hM h00 (by omega) (by omega), ?_⟩
        rintro _ I22 ⟨rfl, e9⟩; replace e9 := e9.symm; subst e9
        refine ⟨_, rfl, ?_⟩
        refine ⟨by omega, ?_⟩
        refine ⟨fun hq8 => ?_, fun hq8 => ?_⟩
        · exact ⟨_, rfl, Or.inr ⟨rfl, _, _, by rw [nzw_t c1, nzw_f c2]; rfl, rfl⟩⟩
        · exact absurd hq8 (by decide)
  · have c1 := bi_f hq1
    refine hJ14 _ _ _ ?_
    unfold wz_294_14
    refine ⟨s_M_0 hM, ?_⟩
    refine ⟨_, cz_202b hV hM h00 (by omega) (by omega), ?_⟩
    rintro _ I10 ⟨rfl, e9⟩; replace e9 := e9.symm; subst e9
    refine ⟨_, rfl, ?_⟩
    refine ⟨by omega, ?_⟩
    refine ⟨fun hq9 => ?_, fun hq9 => ?_⟩
    · exact ⟨_, rfl, Or.inr ⟨rfl, _, _, by rw [nzw_f c1]; rfl, rfl⟩⟩
    · exact absurd hq9 (by decide)
/-- GrievingCamelsModel.behind -/
theorem cz_293 {V : jx_V} (hV : V.1.stackTraces = false) {X : jx_X} {R : jx_R} {I : jx_I} {a0 : Nat} {a1 : Int} {a2 : Int} {a3 : Int} {l : LT} {c : CT}
    (hM : MX X R a0) (hX : MSX I a0 l c) (hW : WT l) (hC : WC l c) (hj : CJ c ≠ []) (h1 : 0 ≤ a1 ∧ a1 < (Ln l : Nat)) (h2c : 0 ≤ a2 ∧ a2 < (Lm l : Nat)) (h3 : a3 = 0 ∨ a3 = 1)
    {QE : String → jx_I → Prop} : jc V 6 293 (0, 0) [.ref a0, jy a1, jy a2, jy a3] X I R (fun rv I' => rv = some (jy (ff (fun k => decide ((if 0 < (itg l (CJ c) (CL c) (Cg c) (Cd c) k).1 a1.toNat a2.toNat then (1 : Int) else 0) = a3)) 24 0)) ∧ FK a0 [46, 48, 49] I I') QE := by
  have hW0 := hW.1
  refine wm_293 hV (by omega) (by omega) (by omega)  (fun J7 J35 hJJ => ?_)
  obtain ⟨hJ7, hJ35⟩ := hJJ
  have hJ1 := WC_J hC hj
  have hn := hW.1
  unfold wz_293
  refine ⟨s_M_0 hM, ?_⟩
  refine ⟨_, cz_243 hV hM hX.1 hW hX.2.1 (GDn_w hW hC) hC.2.1.2 (WC_8 hW hC), ?_⟩
  rintro _ I4 ⟨rfl, hN1, hF1⟩
  refine ⟨rfl, ?_⟩
  have L7 : ∀ (n7 : Nat) (l4 : Int) (K : jx_I), n7 = (25 - l4).toNat → (∃ k : Nat, l4 = (k + 1 : Nat) ∧ k ≤ 24 ∧ MN K a0 l (CL c) (itg l (CJ c) (CL c) (Cg c) (Cd c) k).1 (itg l (CJ c) (CL c) (Cg c) (Cd c) k).2 ∧ ff (fun k => decide ((if 0 < (itg l (CJ c) (CL c) (Cg c) (Cd c) k).1 a1.toNat a2.toNat then (1 : Int) else 0) = a3)) 24 0 = ff (fun k => decide ((if 0 < (itg l (CJ c) (CL c) (Cg c) (Cd c) k).1 a1.toNat a2.toNat then (1 : Int) else 0) = a3)) (24 - k) k ∧ FK a0 [46, 48, 49] I K) → J7 l4 K := by
    intro n7
    induction n7 using Nat.strongRecOn with
    | ind n7 ih7 =>
    intro l4 K hn7 hI7
    obtain ⟨k, rfl, hk, hNK, hff, hF⟩ := hI7
    have hGk := GDn_it (l := l) (J := CJ c) (L := CL c) (GDn_w hW hC) hJ1.2.1 hC.2.1.2 k
    refine hJ7 _ _ ?_
    unfold wz_293_7
    refine ⟨by omega, ?_⟩
    refine ⟨fun hq1 => ?_, fun hq1 => ?_⟩
    · rw [show 24 - k = 0 by omega] at hff
      exact ⟨by rw [hff]; rfl, hF⟩
    · refine ⟨s_M_0 hM, ?_⟩
      refine ⟨_, cz_258 hV hM (FK_MD hX.1 hF (by decide) hW) hW hNK hGk hC.2.1.2 (WC_8 hW hC) hC.2.1.1 (FK_ML hX.2.2.1 hF (by decide) (by omega) (by omega) (by omega)) hJ1.2.1 hJ1.1.2, ?_⟩
      rintro _ I10 ⟨rfl, h48, h49, hN9, hF9⟩
      refine ⟨_, rfl, ?_⟩
      refine ⟨_, r_M_42 hM, _, ⟨s_M_1346 hM, by decide⟩, by omega, _, rr_M_1346 hM (by omega), _, ⟨sr_M_1346 hM (by omega), by decide⟩, ?_⟩
      have hF3 := FK_trans hF (FK_mono (ks2 := [46, 48, 49]) hF9 (by decide))
      have hgv : (I10 (a0 + 1347 + a2.toNat) a1.toNat).toInt = (itg l (CJ c) (CL c) (Cg c) (Cd c) (k + 1)).1 a1.toNat a2.toNat := hN9.2.1 _ _ (by omega) (by omega)
      try simp only [-eq_self, hgv]
      refine ⟨by omega, ?_⟩
      refine ⟨fun hq2 => ?_, fun hq2 => ?_⟩
      · refine hJ35 _ _ _ ?_
        unfold wz_293_35
        refine ⟨by omega, ?_⟩
        refine ⟨fun hq3 => ?_, fun hq3 => ?_⟩
        · exact ih7 _ (by omega) _ _ rfl (⟨k + 1, by omega, by omega, hN9, by rw [hff, show 24 - k = (24 - (k + 1)) + 1 by omega, ff_s, if_neg]; simp only [decide_eq_true_eq]; rw [if_neg (by omega)]; omega, hF3⟩)
        · exact ⟨by rw [hff, show 24 - k = (24 - (k + 1)) + 1 by omega, ff_s, if_pos]; simp only [decide_eq_true_eq]; rw [if_neg (by omega)]; omega, hF3⟩
      · refine hJ35 _ _ _ ?_
        unfold wz_293_35
        refine ⟨by omega, ?_⟩
        refine ⟨fun hq4 => ?_, fun hq4 => ?_⟩
        · exact ih7 _ (by omega) _ _ rfl (⟨k + 1, by omega, by omega, hN9, by rw [hff, show 24 - k = (24 - (k + 1)) + 1 by omega, ff_s, if_neg]; simp only [decide_eq_true_eq]; rw [if_pos (by omega)]; omega, hF3⟩)
        · exact ⟨by rw [hff, show 24 - k = (24 - (k + 1)) + 1 by omega, ff_s, if_pos]; simp only [decide_eq_true_eq]; rw [if_pos (by omega)]; omega, hF3⟩
  exact L7 _ _ _ rfl (⟨0, rfl, by omega, hN1, rfl, FK_mono hF1 (by decide)⟩)
/-- GrievingCamelsModel.learnt -/
theorem cz_295 {V : jx_V} (hV : V.1.stackTraces = false) {X : jx_X} {R : jx_R} {I : jx_I} {a0 : Nat} {a1 : Int} {a2 : Int} {l : LT} {c : CT} 
    (hM : MX X R a0) (hX : MSX I a0 l c) (hW : WT l) (hC : WC l c) (r_a1 : -2147483648 ≤ a1 ∧ a1 < 2147483648) (r_a2 : -2147483648 ≤ a2 ∧ a2 < 2147483648)
    {QE : String → jx_I → Prop} : jc V 7 295 (0, 0) [.ref a0, jy a1, jy a2] X I R (fun rv I' => (nzw (0 ≤ a1 ∧ a1 < (Ln l : Nat)) 0 1 (nzw (0 ≤ a2 ∧ a2 < (Lm l : Nat)) 1 2 (nzw (CJ c ≠ []) 3 3 (none))) = none ∧ rv = some (jy (ff (fun k => decide ((if 0 < (itg l (CJ c) (CL c) (Cg c) (Cd c) k).1 a1.toNat a2.toNat then (1 : Int) else 0) = 1)) 24 0)) ∧ (I' a0 0).toInt = 0 ∧ FK a0 SCR I I') ∨ (∃ k w, nzw (0 ≤ a1 ∧ a1 < (Ln l : Nat)) 0 1 (nzw (0 ≤ a2 ∧ a2 < (Lm l : Nat)) 1 2 (nzw (CJ c ≠ []) 3 3 (none))) = some (k, w) ∧ I' = RM (jx_u I a0 0 (Int32.ofInt 0)) a0 k w ∧ ∃ x : Int, rv = some (jy x))) QE := by
  have hW0 := hW.1
  have hW0 := hW.1
  refine wm_295 hV (by omega) (by omega)  ?_
  unfold wz_295
  refine ⟨s_M_0 hM, ?_⟩
  intro I2 e_I2; subst e_I2
  have hX0 := MSX_0 (v := Int32.ofInt 0) hX hW
  have h00 : (jx_u I a0 0 (Int32.ofInt 0) a0 0).toInt = 0 := by rw [jx_u_s]; rfl
  refine ⟨_, cz_294 hV hM hX0 hW hC h00 (by omega) (by omega), ?_⟩
  rintro _ I5 ⟨r, rfl, hr⟩
  refine ⟨_, rfl, ?_⟩
  refine ⟨by rcases hr with ⟨h, _⟩ | ⟨h, _⟩ <;> omega, ?_⟩
  refine ⟨fun hq1 => ?_, fun hq1 => ?_⟩
  · obtain ⟨_, hex, hI⟩ := hr.resolve_right (fun k => absurd k.1 (by omega))
    subst hI
    obtain ⟨c1, h1⟩ := nzw_n hex
    obtain ⟨c2, h2⟩ := nzw_n h1
    obtain ⟨cJ, _⟩ := nzw_n h2
    refine ⟨_, cz_293 hV hM hX0 hW hC cJ c1 c2 (by omega), ?_⟩
    rintro _ I10 ⟨rfl, hF9⟩
    refine ⟨_, rfl, ?_⟩
    exact Or.inl ⟨hex, rfl, by rw [hF9.2 0 (by decide)]; exact h00, FK_trans FK_0 (FK_mono hF9 (by decide))⟩
  · obtain ⟨_, k, w, hex, hI⟩ := hr.resolve_left (fun k => absurd k.1 (by omega))
    subst hI
    exact Or.inr ⟨k, w, hex, rfl, _, rfl⟩
/-- GrievingCamelsModel.forgot -/
theorem cz_296 {V : jx_V} (hV : V.1.stackTraces = false) {X : jx_X} {R : jx_R} {I : jx_I} {a0 : Nat} {a1 : Int} {a2 : Int} {l : LT} {c : CT} 
    (hM : MX X R a0) (hX : MSX I a0 l c) (hW : WT l) (hC : WC l c) (r_a1 : -2147483648 ≤ a1 ∧ a1 < 2147483648) (r_a2 : -2147483648 ≤ a2 ∧ a2 < 2147483648)
    {QE : String → jx_I → Prop} : jc V 7 296 (0, 0) [.ref a0, jy a1, jy a2] X I R (fun rv I' => (nzw (0 ≤ a1 ∧ a1 < (Ln l : Nat)) 0 1 (nzw (0 ≤ a2 ∧ a2 < (Lm l : Nat)) 1 2 (nzw (CJ c ≠ []) 3 3 (none))) = none ∧ rv = some (jy (ff (fun k => decide ((if 0 < (itg l (CJ c) (CL c) (Cg c) (Cd c) k).1 a1.toNat a2.toNat then (1 : Int) else 0) = 0)) 24 0)) ∧ (I' a0 0).toInt = 0 ∧ FK a0 SCR I I') ∨ (∃ k w, nzw (0 ≤ a1 ∧ a1 < (Ln l : Nat)) 0 1 (nzw (0 ≤ a2 ∧ a2 < (Lm l : Nat)) 1 2 (nzw (CJ c ≠ []) 3 3 (none))) = some (k, w) ∧ I' = RM (jx_u I a0 0 (Int32.ofInt 0)) a0 k w ∧ ∃ x : Int, rv = some (jy x))) QE := by
  have hW0 := hW.1
  have hW0 := hW.1
  refine wm_296 hV (by omega) (by omega)  ?_
  unfold wz_296
  refine ⟨s_M_0 hM, ?_⟩
  intro I2 e_I2; subst e_I2
  have hX0 := MSX_0 (v := Int32.ofInt 0) hX hW
  have h00 : (jx_u I a0 0 (Int32.ofInt 0) a0 0).toInt = 0 := by rw [jx_u_s]; rfl
  refine ⟨_, cz_294 hV hM hX0 hW hC h00 (by omega) (by omega), ?_⟩
  rintro _ I5 ⟨r, rfl, hr⟩
  refine ⟨_, rfl, ?_⟩
  refine ⟨by rcases hr with ⟨h, _⟩ | ⟨h, _⟩ <;> omega, ?_⟩
  refine ⟨fun hq1 => ?_, fun hq1 => ?_⟩
  · obtain ⟨_, hex, hI⟩ := hr.resolve_right (fun k => absurd k.1 (by omega))
    subst hI
    obtain ⟨c1, h1⟩ := nzw_n hex
    obtain ⟨c2, h2⟩ := nzw_n h1
    obtain ⟨cJ, _⟩ := nzw_n h2
    refine ⟨_, cz_293 hV hM hX0 hW hC cJ c1 c2 (by omega), ?_⟩
    rintro _ I10 ⟨rfl, hF9⟩
    refine ⟨_, rfl, ?_⟩
    exact Or.inl ⟨hex, rfl, by rw [hF9.2 0 (by decide)]; exact h00, FK_trans FK_0 (FK_mono hF9 (by decide))⟩
  · obtain ⟨_, k, w, hex, hI⟩ := hr.resolve_left (fun k => absurd k.1 (by omega))
    subst hI
    exact Or.inr ⟨k, w, hex, rfl, _, rfl⟩
/-- GrievingCamelsModel.soon -/
theorem cz_297 {V : jx_V} (hV : V.1.stackTraces = false) {X : jx_X} {R : jx_R} {I : jx_I} {a0 : Nat} {a1 : Int} {l : LT} {c : CT} 
    (hM : MX X R a0) (hX : MSX I a0 l c) (hW : WT l) (hC : WC l c) (r_a1 : -2147483648 ≤ a1 ∧ a1 < 2147483648)
    {QE : String → jx_I → Prop} : jc V 6 297 (0, 0) [.ref a0, jy a1] X I R (fun rv I' => (nzw (0 ≤ a1 ∧ a1 ≤ 9999) 2 1 (nzw (CJ c ≠ []) 3 2 (none)) = none ∧ rv = some (jy (ff (fun k => decide (hrs l (CJ c) (CL c) (itg l (CJ c) (CL c) (Cg c) (Cd c) (k - 1)).1 (itg l (CJ c) (CL c) (Cg c) (Cd c) (k - 1)).2 ≤ a1)) 24 0)) ∧ (I' a0 0).toInt = 0 ∧ FK a0 SCR I I') ∨ (∃ k w, nzw (0 ≤ a1 ∧ a1 ≤ 9999) 2 1 (nzw (CJ c ≠ []) 3 2 (none)) = some (k, w) ∧ I' = RM (jx_u I a0 0 (Int32.ofInt 0)) a0 k w ∧ ∃ x : Int, rv = some (jy x))) QE := by
  have hW0 := hW.1
  have hW0 := hW.1
  refine wm_297 hV (by omega)  (fun J22 J36 hJJ => ?_)
  obtain ⟨hJ22, hJ36⟩ := hJJ
  unfold wz_297
  refine ⟨s_M_0 hM, ?_⟩
  intro I2 e_I2; subst e_I2
  have hX0 := MSX_0 (v := Int32.ofInt 0) hX hW
  have h00 : (jx_u I a0 0 (Int32.ofInt 0) a0 0).toInt = 0 := by rw [jx_u_s]; rfl
  refine ⟨_, cz_203 hV (by omega) (by omega) (by omega), ?_⟩
  rintro _ I5 ⟨rfl, e9⟩; replace e9 := e9.symm; subst e9
  refine ⟨_, rfl, ?_⟩
  refine ⟨by omega, ?_⟩
  refine ⟨fun hq1 => ?_, fun hq1 => ?_⟩
  · have c1 := bi_t hq1
    refine hJ22 _ _ _ ?_
    unfold wz_297_22
    refine ⟨s_M_0 hM, ?_⟩
    refine ⟨_, cz_260o hV hM h00 hX0.2.2.1.1 rfl, ?_⟩
    rintro _ I11 ⟨rfl, hI⟩
    refine ⟨_, rfl, ?_⟩
    refine ⟨by omega, ?_⟩
    refine ⟨fun hq2 => ?_, fun hq2 => ?_⟩
    · have cJ := bi_f hq2
      rw [if_neg cJ] at hI
      subst hI
      have hJ1 := WC_J hC cJ
      refine ⟨s_M_0 hM, ?_⟩
      refine ⟨_, cz_243 hV hM hX0.1 hW hX0.2.1 (GDn_w hW hC) hC.2.1.2 (WC_8 hW hC), ?_⟩
      rintro _ I17 ⟨rfl, hN1, hF1⟩
      refine ⟨rfl, ?_⟩
      have L36 : ∀ (n36 : Nat) (l2 : Int) (K : jx_I), n36 = (25 - l2).toNat → (∃ k : Nat, l2 = (k + 1 : Nat) ∧ k ≤ 24 ∧ MN K a0 l (CL c) (itg l (CJ c) (CL c) (Cg c) (Cd c) k).1 (itg l (CJ c) (CL c) (Cg c) (Cd c) k).2 ∧ ff (fun k => decide (hrs l (CJ c) (CL c) (itg l (CJ c) (CL c) (Cg c) (Cd c) (k - 1)).1 (itg l (CJ c) (CL c) (Cg c) (Cd c) (k - 1)).2 ≤ a1)) 24 0 = ff (fun k => decide (hrs l (CJ c) (CL c) (itg l (CJ c) (CL c) (Cg c) (Cd c) (k - 1)).1 (itg l (CJ c) (CL c) (Cg c) (Cd c) (k - 1)).2 ≤ a1)) (24 - k) k ∧ FK a0 [46, 48, 49] (jx_u I a0 0 (Int32.ofInt 0)) K) → J36 l2 K := by
        intro n36
        induction n36 using Nat.strongRecOn with
        | ind n36 ih36 =>
        intro l2 K hn36 hI36
        obtain ⟨k, rfl, hk, hNK, hff, hF⟩ := hI36
        have hGk := GDn_it (l := l) (J := CJ c) (L := CL c) (GDn_w hW hC) hJ1.2.1 hC.2.1.2 k
        refine hJ36 _ _ ?_
        unfold wz_297_36
        refine ⟨by omega, ?_⟩
        refine ⟨fun hq3 => ?_, fun hq3 => ?_⟩
        · rw [show 24 - k = 0 by omega] at hff
          exact Or.inl ⟨by rw [nzw_t c1, nzw_t cJ], by rw [hff]; rfl, by rw [hF.2 0 (by decide)]; exact h00, FK_trans FK_0 (FK_mono hF (by decide))⟩
        · refine ⟨s_M_0 hM, ?_⟩
          refine ⟨_, cz_258 hV hM (FK_MD hX0.1 hF (by decide) hW) hW hNK hGk hC.2.1.2 (WC_8 hW hC) hC.2.1.1 (FK_ML hX0.2.2.1 hF (by decide) (by omega) (by omega) (by omega)) hJ1.2.1 hJ1.1.2, ?_⟩
          rintro _ I23 ⟨rfl, h48, h49, hN9, hF9⟩
          refine ⟨_, rfl, ?_⟩
          have hF3 := FK_trans hF (FK_mono (ks2 := [46, 48, 49]) hF9 (by decide))
          have hvv : rs (Lr l) (CJ c) ((CJ c).length - 1) + jhs l (CJ c) (CL c) (itg l (CJ c) (CL c) (Cg c) (Cd c) k).1 (itg l (CJ c) (CL c) (Cg c) (Cd c) k).2 ((CJ c).length - 1) = hrs l (CJ c) (CL c) (itg l (CJ c) (CL c) (Cg c) (Cd c) k).1 (itg l (CJ c) (CL c) (Cg c) (Cd c) k).2 := rfl
          have hvr := hrs_rng hW hJ1.2.1 hJ1.1.2 (CL c) (itg l (CJ c) (CL c) (Cg c) (Cd c) k).1 (itg l (CJ c) (CL c) (Cg c) (Cd c) k).2
          simp only [-eq_self, hvv]
          refine ⟨by omega, ?_⟩
          refine ⟨fun hq4 => ?_, fun hq4 => ?_⟩
          · have hle : ¬ hrs l (CJ c) (CL c) (itg l (CJ c) (CL c) (Cg c) (Cd c) (k + 1 - 1)).1 (itg l (CJ c) (CL c) (Cg c) (Cd c) (k + 1 - 1)).2 ≤ a1 := by rw [show k + 1 - 1 = k by omega]; omega
            exact ih36 _ (by omega) _ _ rfl (⟨k + 1, by omega, by omega, hN9, by rw [hff, show 24 - k = (24 - (k + 1)) + 1 by omega, ff_s, if_neg (by simp only [decide_eq_true_eq]; exact hle)], hF3⟩)
          · have hle : hrs l (CJ c) (CL c) (itg l (CJ c) (CL c) (Cg c) (Cd c) (k + 1 - 1)).1 (itg l (CJ c) (CL c) (Cg c) (Cd c) (k + 1 - 1)).2 ≤ a1 := by rw [show k + 1 - 1 = k by omega]; omega
            exact Or.inl ⟨by rw [nzw_t c1, nzw_t cJ], by rw [hff, show 24 - k = (24 - (k + 1)) + 1 by omega, ff_s, if_pos (by simp only [decide_eq_true_eq]; exact hle)], by rw [hF3.2 0 (by decide)]; exact h00, FK_trans FK_0 (FK_mono hF3 (by decide))⟩
      exact L36 _ _ _ rfl (⟨0, rfl, by omega, hN1, rfl, FK_mono hF1 (by decide)⟩)
    · have cJ := bi_t hq2
      rw [if_pos cJ] at hI
      subst hI
      exact Or.inr ⟨_, _, by rw [nzw_t c1]; exact nzw_f (fun k => k cJ), rfl, _, rfl⟩
  · have c1 := bi_f hq1
    refine hJ22 _ _ _ ?_
    unfold wz_297_22
    refine ⟨s_M_0 hM, ?_⟩
    refine ⟨_, cz_260b hV hM h00 rfl, ?_⟩
    rintro _ I11 ⟨rfl, e9⟩; replace e9 := e9.symm; subst e9
    refine ⟨_, rfl, ?_⟩
    refine ⟨by omega, ?_⟩
    refine ⟨fun hq5 => ?_, fun hq5 => ?_⟩
    · exact absurd hq5 (by decide)
    · exact Or.inr ⟨_, _, nzw_f c1, rfl, _, rfl⟩
