/-! ===== a message fed ===== -/
/-- the i-th of five words -/
def fdw (a b c d e : Int) (i : Nat) : Int := if i = 0 then a else if i = 1 then b else if i = 2 then c else if i = 3 then d else e
/-- GrievingCamels.feed -/
theorem cz_135 {V : jx_V} (hV : V.1.stackTraces = false) {X : jx_X} {R : jx_R} {I : jx_I} {a0 : Nat} {a1 : Int} {a2 : Int} {a3 : Int} {a4 : Int} {a5 : Int} {f : Nat}
    (hb : BX X R a0 TGC) (hf : (I (a0 + 1) 1).toInt = (f : Int)) (hf6 : f ≤ 600) (r_a1 : -2147483648 ≤ a1 ∧ a1 < 2147483648) (r_a2 : -2147483648 ≤ a2 ∧ a2 < 2147483648) (r_a3 : -2147483648 ≤ a3 ∧ a3 < 2147483648) (r_a4 : -2147483648 ≤ a4 ∧ a4 < 2147483648) (r_a5 : -2147483648 ≤ a5 ∧ a5 < 2147483648)
    {QE : String → jx_I → Prop} : jc V 2 135 (0, 0) [.ref a0, jy a1, jy a2, jy a3, jy a4, jy a5] X I R (fun rv I' => (f + 20 ≤ 600 ∧ rv = some (jy ((f + 20 : Nat) : Int)) ∧ (I' (a0 + 1) 1).toInt = ((f + 20 : Nat) : Int) ∧ (∀ j, j < 20 → (I' (a0 + 2) (f + j)).toInt = wby (fdw a1 a2 a3 a4 a5 (j / 4)) (j % 4)) ∧ (∀ k, k < f → I' (a0 + 2) k = I (a0 + 2) k) ∧ (∀ k, k ≠ 1 → I' (a0 + 1) k = I (a0 + 1) k) ∧ ∀ q, q ≠ a0 + 1 → q ≠ a0 + 2 → I' q = I q) ∨ (600 < f + 20 ∧ rv = some (jy (-1)) ∧ I' = I)) QE := by
  refine wm_135 hV (by omega) (by omega) (by omega) (by omega) (by omega)  ?_
  unfold wz_135
  refine ⟨s_GC_0 hb, _, r_GC_0_0 hb, s_Tape_0 (b_GC_1 hb), ?_⟩
  refine ⟨_, cz_102 hV (b_GC_1 hb) (by omega) (by omega), ?_⟩
  rintro _ I7 ⟨rfl, e9⟩; replace e9 := e9.symm; subst e9
  refine ⟨_, rfl, ?_⟩
  refine ⟨by omega, ?_⟩
  refine ⟨fun hq1 => ?_, fun hq1 => ?_⟩
  · have cr := bi_t hq1
    refine ⟨_, cz_103 (f := f + 0) hV (b_GC_1 hb) hf (by omega) (by omega), ?_⟩
    rintro _ I12 ⟨rfl, hf1, hb1, hk1, hm1, hO1⟩
    refine ⟨rfl, ?_⟩
    refine ⟨_, cz_103 (f := f + 4) hV (b_GC_1 hb) hf1 (by omega) (by omega), ?_⟩
    rintro _ I16 ⟨rfl, hf2, hb2, hk2, hm2, hO2⟩
    refine ⟨rfl, ?_⟩
    refine ⟨_, cz_103 (f := f + 8) hV (b_GC_1 hb) hf2 (by omega) (by omega), ?_⟩
    rintro _ I20 ⟨rfl, hf3, hb3, hk3, hm3, hO3⟩
    refine ⟨rfl, ?_⟩
    refine ⟨_, cz_103 (f := f + 12) hV (b_GC_1 hb) hf3 (by omega) (by omega), ?_⟩
    rintro _ I24 ⟨rfl, hf4, hb4, hk4, hm4, hO4⟩
    refine ⟨rfl, ?_⟩
    refine ⟨_, cz_103 (f := f + 16) hV (b_GC_1 hb) hf4 (by omega) (by omega), ?_⟩
    rintro _ I28 ⟨rfl, hf5, hb5, hk5, hm5, hO5⟩
    refine ⟨rfl, ?_⟩
    refine Or.inl ⟨by omega, by rw [hf5], hf5, fun j hj => ?_, fun k hk => by rw [hk5 _ (by omega), hk4 _ (by omega), hk3 _ (by omega), hk2 _ (by omega), hk1 _ (by omega)], fun k hk => by rw [hm5 _ hk, hm4 _ hk, hm3 _ hk, hm2 _ hk, hm1 _ hk], fun q h1 h2 => by rw [hO5 q h1 h2, hO4 q h1 h2, hO3 q h1 h2, hO2 q h1 h2, hO1 q h1 h2]⟩
    rcases (by omega : j < 4 ∨ (4 ≤ j ∧ j < 8) ∨ (8 ≤ j ∧ j < 12) ∨ (12 ≤ j ∧ j < 16) ∨ (16 ≤ j ∧ j < 20)) with h9 | h9 | h9 | h9 | h9
    · have h := hb1 (j - 0) (by omega)
      rw [show f + 0 + (j - 0) = f + j by omega] at h
      rw [hk5 _ (by omega), hk4 _ (by omega), hk3 _ (by omega), hk2 _ (by omega), h]
      rw [show j / 4 = 0 by omega, show j % 4 = j - 0 by omega]; rfl
    · have h := hb2 (j - 4) (by omega)
      rw [show f + 4 + (j - 4) = f + j by omega] at h
      rw [hk5 _ (by omega), hk4 _ (by omega), hk3 _ (by omega), h]
      rw [show j / 4 = 1 by omega, show j % 4 = j - 4 by omega]; rfl
    · have h := hb3 (j - 8) (by omega)
      rw [show f + 8 + (j - 8) = f + j by omega] at h
      rw [hk5 _ (by omega), hk4 _ (by omega), h]
      rw [show j / 4 = 2 by omega, show j % 4 = j - 8 by omega]; rfl
    · have h := hb4 (j - 12) (by omega)
      rw [show f + 12 + (j - 12) = f + j by omega] at h
      rw [hk5 _ (by omega), h]
      rw [show j / 4 = 3 by omega, show j % 4 = j - 12 by omega]; rfl
    · have h := hb5 (j - 16) (by omega)
      rw [show f + 16 + (j - 16) = f + j by omega] at h
      rw [h]
      rw [show j / 4 = 4 by omega, show j % 4 = j - 16 by omega]; rfl
  · have cr := bi_f hq1
    exact Or.inr ⟨by omega, rfl, rfl⟩
