/-! ===== the reference: image, restore ===== -/
/-- an image of the reference -/
def KI (I : jx_I) (x : Nat) (l : LT) (c : CT) : Prop := ((I x 0).toInt = (CL c).length ∧ (I x 1).toInt = (CJ c).length ∧ (I x 2).toInt = (CN c).length ∧ (I x 3).toInt = (CU c).length) ∧ ((CL c).length ≤ 8 ∧ (CJ c).length ≤ 12 ∧ (CN c).length ≤ 9 ∧ (CU c).length ≤ 24) ∧ (∀ (i y : Nat), (CL c)[i]? = some y → (I x (4 + i)).toInt = (y : Int)) ∧ (∀ (i y : Nat), (CJ c)[i]? = some y → (I x (12 + i)).toInt = (y : Int)) ∧ (∀ (k : Nat) (e : Nat × Int), (CN c)[k]? = some e → (I x (24 + 2 * k + 0)).toInt = e.1 ∧ (I x (24 + 2 * k + 1)).toInt = e.2) ∧ (∀ p q, p < Ln l → q < Lm l → (I x (42 + 20 * q + 2 * p)).toInt = Cg c p q ∧ (I x (42 + 20 * q + 2 * p + 1)).toInt = Cd c p q) ∧ ∀ (k : Nat) (e : GT × GT), (CU c)[k]? = some e → ∀ p q, p < Ln l → q < Lm l → (I x (202 + 160 * k + (q * 10 + p))).toInt = e.1 p q ∧ (I x (202 + 160 * k + (80 + q * 10 + p))).toInt = e.2 p q
theorem KI_fr {I I' : jx_I} {x : Nat} {l : LT} {c : CT} (h : KI I x l c) (e : I' x = I x) : KI I' x l c := by
  unfold KI
  rw [e]
  exact h
theorem gi_lt {α : Type} {L : List α} {i : Nat} {y : α} (h : L[i]? = some y) : i < L.length := (List.getElem?_eq_some_iff.mp h).1
theorem KI_of {I K : jx_I} {m x : Nat} {l : LT} {c : CT} (h : MSX I m l c) (hW : WT l) (hC : WC l c) (hr : ∀ s, s < 4042 → K x s = I (m + (mad s).1) (mad s).2) : KI K x l c := by
  have hn := hW.1
  have h8 := WC_8 hW hC
  have hJ12 : (CJ c).length ≤ 12 := by
    rcases hC.2.2.1 with e | e
    · rw [e]; simp
    · exact e.1.2
  have e0 : K x 0 = I m 36 := hr 0 (by omega)
  have e1 : K x 1 = I m 37 := hr 1 (by omega)
  have e2 : K x 2 = I m 38 := hr 2 (by omega)
  have e3 : K x 3 = I m 39 := hr 3 (by omega)
  refine ⟨⟨by rw [e0]; exact h.2.1.1.1, by rw [e1]; exact h.2.2.1.1, by rw [e2]; exact h.2.2.2.1.1, by rw [e3]; exact h.2.2.2.2.1⟩, ⟨h8, hJ12, h.2.2.2.1.2.1, h.2.2.2.2.2.1⟩, ?_, ?_, ?_, ?_, ?_⟩
  · intro i y hy
    have hi := gi_lt hy
    have := hr (4 + i) (by omega)
    rw [mad_r (by omega)] at this
    rw [this]; exact h.2.1.1.2 i y hy
  · intro i y hy
    have hi := gi_lt hy
    have := hr (12 + i) (by omega)
    rw [mad_j (by omega)] at this
    rw [this]; exact h.2.2.1.2 i y hy
  · intro k e he
    have hk := gi_lt he
    have h9 := h.2.2.2.1.2.1
    have h1 := hr (24 + 2 * k + 0) (by omega)
    rw [mad_l (by omega) (by omega)] at h1
    have h2 := hr (24 + 2 * k + 1) (by omega)
    rw [mad_l (by omega) (by omega)] at h2
    rw [h1, h2]
    simp only [← Nat.add_assoc]
    exact h.2.2.2.1.2.2 k e he
  · intro p q hp hq
    have h1 := hr (42 + 20 * q + 2 * p) (by omega)
    rw [mad_g (by omega) (by omega)] at h1
    have h2 := hr (42 + 20 * q + 2 * p + 1) (by omega)
    rw [mad_d (by omega) (by omega)] at h2
    rw [h1, h2]
    simp only [← Nat.add_assoc]
    exact ⟨h.2.1.2.1 p q hp hq, h.2.1.2.2 p q hp hq⟩
  · intro k e he p q hp hq
    have hk := gi_lt he
    have h9 := h.2.2.2.2.2.1
    have h1 := hr (202 + 160 * k + (q * 10 + p)) (by omega)
    rw [mad_u (by omega) (by omega)] at h1
    have h2 := hr (202 + 160 * k + (80 + q * 10 + p)) (by omega)
    rw [mad_u (by omega) (by omega)] at h2
    rw [h1, h2]
    show (I (m + (1316 + k)) (q * 10 + p)).toInt = _ ∧ (I (m + (1316 + k)) (80 + q * 10 + p)).toInt = _
    rw [← Nat.add_assoc]
    exact h.2.2.2.2.2.2 k e he p q hp hq
theorem MSX_ki {I K : jx_I} {m x : Nat} {l : LT} {c c0 : CT} (h0 : MSX I m l c0) (hW : WT l) (h : KI I x l c) (hr : ∀ s, s < 4042 → K (m + (mad s).1) (mad s).2 = I x s) (hq : ∀ q k, ¬ (q = m ∧ k = 41) → (∀ s, s < 4042 → ¬ (q = m + (mad s).1 ∧ k = (mad s).2)) → K q k = I q k) : MSX K m l c := by
  have hn := hW.1
  have hl := h.2.1
  have e0 : K m 36 = I x 0 := hr 0 (by omega)
  have e1 : K m 37 = I x 1 := hr 1 (by omega)
  have e2 : K m 38 = I x 2 := hr 2 (by omega)
  have e3 : K m 39 = I x 3 := hr 3 (by omega)
  refine ⟨MD_of h0.1 (hq m 23 (by omega) (fun s hs => by have := mad_rng s hs; omega)) (fun q h1 h2 => funext fun k => hq q k (by omega) (fun s hs => by have := mad_rng s hs; omega)) hW, ⟨⟨by rw [e0]; exact h.1.1, ?_⟩, ?_, ?_⟩, ⟨by rw [e1]; exact h.1.2.1, ?_⟩, ⟨by rw [e2]; exact h.1.2.2.1, hl.2.2.1, ?_⟩, ⟨by rw [e3]; exact h.1.2.2.2, hl.2.2.2, ?_⟩⟩
  · intro i y hy
    have hi := gi_lt hy
    have := hr (4 + i) (by omega)
    rw [mad_r (by omega)] at this
    simp only at this
    rw [this]; exact h.2.2.1 i y hy
  · intro p q hp hq2
    have h1 := hr (42 + 20 * q + 2 * p) (by omega)
    rw [mad_g (by omega) (by omega)] at h1
    simp only [← Nat.add_assoc] at h1
    rw [h1]; exact (h.2.2.2.2.2.1 p q hp hq2).1
  · intro p q hp hq2
    have h1 := hr (42 + 20 * q + 2 * p + 1) (by omega)
    rw [mad_d (by omega) (by omega)] at h1
    simp only [← Nat.add_assoc] at h1
    rw [h1]; exact (h.2.2.2.2.2.1 p q hp hq2).2
  · intro i y hy
    have hi := gi_lt hy
    have := hr (12 + i) (by omega)
    rw [mad_j (by omega)] at this
    simp only at this
    rw [this]; exact h.2.2.2.1 i y hy
  · intro k e he
    have hk := gi_lt he
    have h1 := hr (24 + 2 * k + 0) (by omega)
    rw [mad_l (by omega) (by omega)] at h1
    have h2 := hr (24 + 2 * k + 1) (by omega)
    rw [mad_l (by omega) (by omega)] at h2
    simp only [← Nat.add_assoc] at h1 h2
    rw [h1, h2]; exact h.2.2.2.2.1 k e he
  · intro k e he p q hp hq2
    have hk := gi_lt he
    have h1 : K (m + (1316 + k)) (q * 10 + p) = I x (202 + 160 * k + (q * 10 + p)) := by
      have h1 := hr (202 + 160 * k + (q * 10 + p)) (by omega)
      rw [mad_u (by omega) (by omega)] at h1
      exact h1
    have h2 : K (m + (1316 + k)) (80 + q * 10 + p) = I x (202 + 160 * k + (80 + q * 10 + p)) := by
      have h2 := hr (202 + 160 * k + (80 + q * 10 + p)) (by omega)
      rw [mad_u (by omega) (by omega)] at h2
      exact h2
    rw [Nat.add_assoc, h1, h2]; exact h.2.2.2.2.2.2 k e he p q hp hq2
/-- GrievingCamelsModel.image -/
theorem cz_323 {V : jx_V} (hV : V.1.stackTraces = false) {X : jx_X} {R : jx_R} {I : jx_I} {a0 : Nat} {l : LT} {c : CT} {n : Nat}
    (hM : MX X R a0) (hX : MSX I a0 l c) (hW : WT l) (hC : WC l c) (hn : (I a0 40).toInt = (n : Int)) (hn3 : n ≤ 3)
    {QE : String → jx_I → Prop} : jc V 3 323 (0, 0) [.ref a0] X I R (fun rv I' => (n = 3 ∧ rv = some (jy (-1)) ∧ I' = jx_u I a0 0 (Int32.ofInt 0)) ∨ (n < 3 ∧ rv = some (jy (n + 1 : Nat)) ∧ KI I' (a0 + 1341 + n) l c ∧ (I' a0 40).toInt = (n + 1 : Nat) ∧ (I' a0 0).toInt = 0 ∧ (∀ q, q ≠ a0 → q ≠ (a0 + 1341 + n) → I' q = I q) ∧ ∀ k, k ≠ 0 → k ≠ 40 → k ≠ 41 → I' a0 k = I a0 k)) QE := by
  have hW0 := hW.1
  refine wm_323 hV   ?_
  unfold wz_323
  refine ⟨s_M_0 hM, ?_⟩
  intro I2 e_I2; subst e_I2
  have hX0 := MSX_0 (v := Int32.ofInt 0) hX hW
  have h40 : ((jx_u I a0 0 (Int32.ofInt 0)) a0 40).toInt = (n : Int) := by rw [jx_u_k _ _ _ _ (by omega)]; exact hn
  refine ⟨fun hq1 => ?_, fun hq1 => ?_⟩
  · simp only [h40] at hq1
    refine ⟨_, r_M_33 hM, _, ⟨s_M_1340 hM, by decide⟩, ?_⟩
    try simp only [-eq_self, h40, Int.toNat_natCast]
    refine ⟨by omega, _, rr_M_1340 hM (by omega), ?_⟩
    refine ⟨_, cz_322p hV hM (sr_M_1340 hM (by omega)) (by omega) rfl, ?_⟩
    rintro _ I12 ⟨rfl, hm⟩
    refine ⟨rfl, ?_⟩
    have h12 : (I12 a0 40).toInt = (n : Int) := by rw [hm.2.2 a0 40 (by omega) (by omega)]; exact h40
    intro I14 e_I14; subst e_I14
    have e14 : ((jx_u I12 a0 40 (Int32.ofInt ((I12 a0 40).toInt + 1))) a0 40).toInt = ((n + 1 : Nat) : Int) := by rw [jx_u_s]; rw [jy_toInt (by omega)]; omega
    refine Or.inr ⟨by omega, by rw [e14], KI_of hX0 hW hC (fun s hs => by rw [jx_u_a _ _ _ _ (by omega)]; exact hm.2.1 s hs), e14, by rw [jx_u_k _ _ _ _ (by omega), hm.2.2 a0 0 (by omega) (by omega), jx_u_s]; rfl, fun q h1 h2 => ?_, fun k h1 h2 h3 => ?_⟩
    · rw [jx_u_r _ _ _ h1]; funext k; rw [hm.2.2 q k h2 (by omega), jx_u_a _ _ _ _ h1]
    · rw [jx_u_k _ _ _ _ h2, hm.2.2 a0 k (by omega) (by omega), jx_u_k _ _ _ _ h1]
  · exact Or.inl ⟨by omega, rfl, rfl⟩
/-- GrievingCamelsModel.restore -/
theorem cz_324 {V : jx_V} (hV : V.1.stackTraces = false) {X : jx_X} {R : jx_R} {I : jx_I} {a0 : Nat} {l : LT} {c e : CT} {n : Nat}
    (hM : MX X R a0) (hX : MSX I a0 l c) (hW : WT l) (hC : WC l c) (hn : (I a0 40).toInt = ((n + 1 : Nat) : Int)) (hn3 : n < 3) (hK : KI I (a0 + 1341 + n) l e)
    {QE : String → jx_I → Prop} : jc V 3 324 (0, 0) [.ref a0] X I R (fun rv I' => rv = some (jy (n : Int)) ∧ MSX I' a0 l e ∧ (I' a0 40).toInt = (n : Int) ∧ (I' a0 0).toInt = 0 ∧ (∀ q, q ≠ a0 → (q < a0 + 1286 ∨ (a0 + 1341 ≤ q ∧ q < a0 + 1344) ∨ a0 + 1371 ≤ q) → I' q = I q) ∧ ∀ k, k ≠ 40 → k ∉ SCQ → I' a0 k = I a0 k) QE := by
  have hW0 := hW.1
  refine wm_324 hV   ?_
  unfold wz_324
  refine ⟨s_M_0 hM, ?_⟩
  intro I2 e_I2; subst e_I2
  have hX0 := MSX_0 (v := Int32.ofInt 0) hX hW
  have h40 : ((jx_u I a0 0 (Int32.ofInt 0)) a0 40).toInt = ((n + 1 : Nat) : Int) := by rw [jx_u_k _ _ _ _ (by omega)]; exact hn
  refine ⟨fun hq1 => ?_, fun hq1 => ?_⟩
  · intro I3 e_I3; subst e_I3
    have hX3 := MSX_k hX0 (FK_f (k := 40) (v := Int32.ofInt (((jx_u I a0 0 (Int32.ofInt 0)) a0 40).toInt - 1)) (FK_refl (m := a0) (ks := [40])) (by decide)) hW (by decide) (by decide) (by decide) (by decide) (by decide)
    have e3 : ((jx_u (jx_u I a0 0 (Int32.ofInt 0)) a0 40 (Int32.ofInt (((jx_u I a0 0 (Int32.ofInt 0)) a0 40).toInt - 1))) a0 40).toInt = (n : Int) := by rw [jx_u_s, h40]; rw [jy_toInt (by omega)]; omega
    have f3 : ∀ q k, ¬ (q = a0 ∧ k = 0) → ¬ (q = a0 ∧ k = 40) → (jx_u (jx_u I a0 0 (Int32.ofInt 0)) a0 40 (Int32.ofInt (((jx_u I a0 0 (Int32.ofInt 0)) a0 40).toInt - 1))) q k = I q k := fun q k h1 h2 => (if_neg h2).trans (if_neg h1)
    have z3 : ((jx_u (jx_u I a0 0 (Int32.ofInt 0)) a0 40 (Int32.ofInt (((jx_u I a0 0 (Int32.ofInt 0)) a0 40).toInt - 1))) a0 0).toInt = 0 := by rw [jx_u_k _ _ _ _ (by omega), jx_u_s]; rfl
    generalize jx_u (jx_u I a0 0 (Int32.ofInt 0)) a0 40 (Int32.ofInt (((jx_u I a0 0 (Int32.ofInt 0)) a0 40).toInt - 1)) = I3 at hX3 e3 f3 z3 ⊢
    refine ⟨_, r_M_33 hM, _, ⟨s_M_1340 hM, by decide⟩, ?_⟩
    try simp only [-eq_self, e3, Int.toNat_natCast]
    refine ⟨by omega, _, rr_M_1340 hM (by omega), ?_⟩
    refine ⟨_, cz_322g hV hM (sr_M_1340 hM (by omega)) (by omega) rfl, ?_⟩
    rintro _ I13 ⟨rfl, hm⟩
    refine ⟨rfl, ?_⟩
    have e13 : (I13 a0 40).toInt = (n : Int) := by rw [hm.2.2 a0 40 (by omega) (fun s hs => by have := mad_rng s hs; omega)]; exact e3
    refine ⟨by rw [e13], MSX_ki hX3 hW (KI_fr hK (funext fun k => f3 _ k (by omega) (by omega))) hm.2.1 hm.2.2, e13, by rw [hm.2.2 a0 0 (by omega) (fun s hs => by have := mad_rng s hs; omega)]; exact z3, fun q h1 h2 => ?_, fun k h1 h2 => ?_⟩
    · funext k; rw [hm.2.2 q k (by omega) (fun s hs => by have := mad_rng s hs; omega)]; exact f3 q k (by omega) (by omega)
    · have h3 : k ≠ 41 := by rintro rfl; exact h2 (by decide)
      have h4 : k ≠ 0 := by rintro rfl; exact h2 (by decide)
      have h5 : k ≠ 36 := by rintro rfl; exact h2 (by decide)
      have h6 : k ≠ 37 := by rintro rfl; exact h2 (by decide)
      have h7 : k ≠ 38 := by rintro rfl; exact h2 (by decide)
      have h8 : k ≠ 39 := by rintro rfl; exact h2 (by decide)
      rw [hm.2.2 a0 k (by omega) (fun s hs => by have := mad_rng s hs; omega)]; exact f3 a0 k (by omega) (by omega)
  · omega
/-- GrievingCamelsModel.restore -/
theorem cz_324z {V : jx_V} (hV : V.1.stackTraces = false) {X : jx_X} {R : jx_R} {I : jx_I} {a0 : Nat} 
    (hM : MX X R a0) (hn : (I a0 40).toInt = 0)
    {QE : String → jx_I → Prop} : jc V 3 324 (0, 0) [.ref a0] X I R (fun rv I' => rv = some (jy (-1)) ∧ I' = jx_u I a0 0 (Int32.ofInt 0)) QE := by
  refine wm_324 hV   ?_
  unfold wz_324
  refine ⟨s_M_0 hM, ?_⟩
  intro I2 e_I2; subst e_I2
  have h40 : ((jx_u I a0 0 (Int32.ofInt 0)) a0 40).toInt = 0 := by rw [jx_u_k _ _ _ _ (by omega)]; exact hn
  refine ⟨fun hq1 => ?_, fun hq1 => ?_⟩
  · omega
  · exact ⟨rfl, rfl⟩
