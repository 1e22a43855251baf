/-! ===== the reference: another number ===== -/
/-- how the reference reads a number of 0 to hi but x at s -/
def RNO (I : jx_I) (m : Nat) (T : List Int) (s : Nat) (hi x r fa : Int) : Prop := (dig T s ≠ [] ∧ 0 ≤ nval T s ∧ nval T s ≤ hi ∧ nval T s ≠ x ∧ r = nval T s ∧ RTX I m T (s + (dig T s).length : Nat) 0 fa) ∨ (dig T s = [] ∧ ∃ q : Nat, RTX I m T (q : Int) 1 (s : Int)) ∨ (dig T s ≠ [] ∧ (¬ (0 ≤ nval T s ∧ nval T s ≤ hi) ∨ nval T s = x) ∧ ∃ q : Nat, RTX I m T (q : Int) 2 (s : Int))
/-- GrievingCamelsModel.otherNumber -/
theorem cz_211 {V : jx_V} (hV : V.1.stackTraces = false) {X : jx_X} {R : jx_R} {I : jx_I} {a0 : Nat} {a1 : Int} {a2 : Int} {T : List Int} {p : Nat} {fk fa : Int}
    (hM : MX X R a0) (hT : RTX I a0 T (p : Int) fk fa) (hp : p ≤ T.length) (hk : fk = 0) (r_a1 : -2147483648 ≤ a1 ∧ a1 < 2147483648) (r_a2 : -2147483648 ≤ a2 ∧ a2 < 2147483648)
    {QE : String → jx_I → Prop} : jc V 4 211 (0, 0) [.ref a0, jy a1, jy a2] X I R (fun rv I' => (∃ r : Int, rv = some (jy r) ∧ RNO I' a0 T (skB T p) a1 a2 r fa) ∧ FO a0 [4, 5, 6] I I') QE := by
  have h6 := hT.2.1
  have h5 := hT.1.2.2.1
  have hsk := skB_le hp
  subst hk
  obtain ⟨s, hs⟩ : ∃ s, s = skB T p := ⟨_, rfl⟩
  have hss : skB T s = s := by rw [hs]; exact skB_idem T p
  rw [← hs] at hsk ⊢
  refine wm_211 hV (by omega) (by omega)  ?_
  unfold wz_211
  refine ⟨s_M_0 hM, ?_⟩
  refine ⟨fun hq1 => ?_, fun hq1 => ?_⟩
  · refine ⟨_, cz_207 hV hM hT hp, ?_⟩
    rintro _ I4 ⟨rfl, hT4, hF4⟩
    refine ⟨rfl, ?_⟩
    rw [← hs] at hT4
    have h44 := hT4.1.2.1
    try simp only [-eq_self, h44]
    refine ⟨_, cz_210 hV hM hT4 hsk.2 rfl (by omega) (by omega), ?_⟩
    rintro _ I8 ⟨⟨r9, rfl, hR8⟩, hA8⟩
    refine ⟨_, rfl, ?_⟩
    rw [hss] at hR8
    have hF8 := FO_trans (FO_mono hF4 (by decide)) hA8
    refine ⟨fun hq2 => ?_, fun hq2 => ?_⟩
    · rcases hR8 with h | ⟨h1, h2, q, h⟩ | ⟨h1, h2, h3, q, h⟩
      · have := h.2.2.2.2.1.2.2.1
        exact absurd this hq2
      · exact ⟨⟨_, rfl, Or.inr (Or.inl ⟨h1, q, h⟩)⟩, hF8⟩
      · exact ⟨⟨_, rfl, Or.inr (Or.inr ⟨h1, Or.inl h2, q, h⟩)⟩, hF8⟩
    · have hok : dig T s ≠ [] ∧ 0 ≤ nval T s ∧ nval T s ≤ a1 ∧ r9 = nval T s ∧ RTX I8 a0 T (s + (dig T s).length : Nat) 0 fa := by
        rcases hR8 with h | ⟨_, _, q, h⟩ | ⟨_, _, _, q, h⟩
        · exact h
        · have := h.1.2.2.1; exfalso; omega
        · have := h.1.2.2.1; exfalso; omega
      have hT8 := hok.2.2.2.2
      refine ⟨by omega, ?_⟩
      refine ⟨fun hq3 => ?_, fun hq3 => ?_⟩
      · exact ⟨⟨_, rfl, Or.inl ⟨hok.1, hok.2.1, hok.2.2.1, by omega, hok.2.2.2.1, hT8⟩⟩, hF8⟩
      · refine ⟨_, cz_208 hV hM hT8 (by omega) (by omega), ?_⟩
        rintro _ I13 ⟨rfl, hT13, hF13⟩
        refine ⟨rfl, ?_⟩
        rw [if_pos rfl, if_pos rfl] at hT13
        exact ⟨⟨_, rfl, Or.inr (Or.inr ⟨hok.1, Or.inr (by omega), _, hT13⟩)⟩, FO_trans hF8 (FO_mono hF13 (by decide))⟩
  · exact absurd h5 hq1
