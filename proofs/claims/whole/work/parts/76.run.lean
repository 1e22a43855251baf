/-! ===== a plan and a run of it; the reference: its steps ===== -/
/-- a step: kind, number, test, where its first block ends, where it ends -/
abbrev SP : Type := Nat × Int × Nat × Nat × Nat
/-- a test: where its left side begins, relation, where its right side begins and ends -/
abbrev TE : Type := Nat × Nat × Nat × Nat
/-- a value: sign, kind, number -/
abbrev VA : Type := Int × Nat × Int
abbrev PLT : Type := List SP × List TE × List VA
/-- the reference holds a plan -/
def MP (I : jx_I) (m : Nat) (P : PLT) : Prop := (I m 56).toInt = P.1.length ∧ (∀ (k : Nat) (e : SP), P.1[k]? = some e → (I (m + 1372 + k) 0).toInt = (e.1 : Int) ∧ (I (m + 1372 + k) 1).toInt = e.2.1 ∧ (I (m + 1372 + k) 2).toInt = (e.2.2.1 : Int) ∧ (I (m + 1372 + k) 3).toInt = (e.2.2.2.1 : Int) ∧ (I (m + 1372 + k) 4).toInt = (e.2.2.2.2 : Int)) ∧ (∀ (k : Nat) (e : TE), P.2.1[k]? = some e → (I (m + 1614 + k) 0).toInt = (e.1 : Int) ∧ (I (m + 1614 + k) 1).toInt = (e.2.1 : Int) ∧ (I (m + 1614 + k) 2).toInt = (e.2.2.1 : Int) ∧ (I (m + 1614 + k) 3).toInt = (e.2.2.2 : Int)) ∧ ∀ (k : Nat) (e : VA), P.2.2[k]? = some e → (I (m + 1856 + k) 0).toInt = e.1 ∧ (I (m + 1856 + k) 1).toInt = (e.2.1 : Int) ∧ (I (m + 1856 + k) 2).toInt = e.2.2
/-- a plan that a text can tell -/
def WP (l : LT) (P : PLT) : Prop := (P.1.length ≤ 100 ∧ P.2.1.length ≤ 100 ∧ P.2.2.length ≤ 160) ∧ (∀ (k : Nat) (e : SP), P.1[k]? = some e → e.1 ≤ 9 ∧ (0 ≤ e.2.1 ∧ e.2.1 ≤ 99) ∧ (e.1 = 0 → e.2.1 < (Ln l : Int)) ∧ (4 ≤ e.1 → e.1 ≤ 6 → e.2.1 < (Lm l : Int)) ∧ (8 ≤ e.1 → e.2.2.1 < P.2.1.length) ∧ k + 1 ≤ e.2.2.2.1 ∧ e.2.2.2.1 ≤ e.2.2.2.2 ∧ e.2.2.2.2 ≤ P.1.length) ∧ (∀ (k : Nat) (e : TE), P.2.1[k]? = some e → e.1 ≤ e.2.2.1 ∧ e.2.2.1 ≤ e.2.2.2 ∧ e.2.2.2 ≤ P.2.2.length ∧ e.2.1 ≤ 2) ∧ ∀ (k : Nat) (e : VA), P.2.2[k]? = some e → (e.1 = 1 ∨ e.1 = -1) ∧ e.2.1 ≤ 7 ∧ (0 ≤ e.2.2 ∧ e.2.2 ≤ 999) ∧ (e.2.1 = 7 → e.2.2 < (Lm l : Int))
/-- a run: here, hours, lost; steps, worn; row, griefs, depths -/
abbrev RN : Type := (Nat × Int × Int) × (Int × Int) × List Nat × GT × GT
abbrev yHe (s : RN) : Nat := s.1.1
abbrev yHo (s : RN) : Int := s.1.2.1
abbrev yLo (s : RN) : Int := s.1.2.2
abbrev yDo (s : RN) : Int := s.2.1.1
abbrev yWo (s : RN) : Int := s.2.1.2
abbrev yL (s : RN) : List Nat := s.2.2.1
abbrev yG (s : RN) : GT := s.2.2.2.1
abbrev yD (s : RN) : GT := s.2.2.2.2
/-- the reference is in a run -/
def MR (I : jx_I) (m : Nat) (l : LT) (s : RN) : Prop := ((I m 66).toInt = (yHe s : Int) ∧ (I m 67).toInt = yHo s ∧ (I m 68).toInt = yLo s ∧ (I m 69).toInt = yDo s ∧ (I m 70).toInt = yWo s) ∧ MN I m l (yL s) (yG s) (yD s)
/-- what holds in a run, x steps begun and not yet done -/
def WR (x : Nat) (l : LT) (s : RN) : Prop := yHe s < Ln l ∧ (0 ≤ yHo s ∧ yHo s ≤ 123 * (yDo s - x)) ∧ (0 ≤ yLo s ∧ yLo s ≤ yDo s - x) ∧ (0 ≤ yDo s ∧ yDo s ≤ 300) ∧ (yWo s = 0 ∨ yWo s = 1) ∧ GD (yG s) (yD s) ∧ (yL s).Nodup ∧ ∀ c ∈ yL s, c < Lm l
theorem WR_0 {x : Nat} {l : LT} {s : RN} (h : WR x l s) : WR 0 l s := ⟨h.1, by have := h.2.1; omega, by have := h.2.2.1; omega, h.2.2.2⟩
theorem WR_8 {x : Nat} {l : LT} {s : RN} (h : WR x l s) (hW : WT l) : (yL s).length ≤ 8 := by
  have h1 := nd_len (Lm l) (yL s) h.2.2.2.2.2.2.1 h.2.2.2.2.2.2.2
  have := hW.1.2
  omega
theorem WR_g {x : Nat} {l : LT} {s : RN} (h : WR x l s) (hW : WT l) : GDn (Ln l) (Lm l) (yG s) (yD s) := fun p c hp hc => by
  have := hW.1
  exact h.2.2.2.2.2.1 p c (by omega) (by omega)
/-- the halt here -/
def yht (l : LT) (s : RN) : Int := hlt (Lc l) ((yL s).map (yG s (yHe s))) (nd (Lk l (yHe s)))
/-- what a value is worth -/
def vvl (l : LT) (s : RN) (e : VA) : Int := e.1 * (if e.2.1 = 0 then e.2.2 else if e.2.1 = 1 then (yHe s : Int) else if e.2.1 = 2 then yHo s else if e.2.1 = 3 then yht l s else if e.2.1 = 4 then ((yL s).length : Int) else if e.2.1 = 5 then yLo s else if e.2.1 = 6 then yDo s - 1 else yG s (yHe s) e.2.2.toNat)
/-- the sum of n values from a on -/
def vsm (l : LT) (s : RN) (vs : List VA) (a : Nat) : Nat → Int
  | 0 => 0
  | n + 1 => vsm l s vs a n + vvl l s (vs.getD (a + n) (0, 0, 0))
/-- is the k-th test so? -/
def tsb (l : LT) (s : RN) (P : PLT) (e : TE) : Bool := if e.2.1 = 0 then decide (vsm l s P.2.2 e.1 (e.2.2.1 - e.1) < vsm l s P.2.2 e.2.2.1 (e.2.2.2 - e.2.2.1)) else if e.2.1 = 1 then decide (vsm l s P.2.2 e.2.2.1 (e.2.2.2 - e.2.2.1) < vsm l s P.2.2 e.1 (e.2.2.1 - e.1)) else decide (vsm l s P.2.2 e.1 (e.2.2.1 - e.1) = vsm l s P.2.2 e.2.2.1 (e.2.2.2 - e.2.2.1))
/-- a step begins, or the run is worn -/
def cts (s : RN) : RN := if yWo s = 0 ∧ yDo s ≠ 300 then (s.1, (yDo s + 1, 0), s.2.2) else (s.1, (yDo s, 1), s.2.2)
/-- a plain step of kind k with number v -/
def pls (l : LT) (s : RN) (k : Nat) (v : Int) : RN :=
  if k = 0 then (if Lr l (yHe s) v.toNat = 0 then ((yHe s, yHo s, yLo s + 1), s.2) else ((v.toNat, yHo s + (Lr l (yHe s) v.toNat + hlt (Lc l) ((yL s).map (yG s v.toNat)) (nd (Lk l v.toNat))), yLo s), s.2.1, yL s, cmg (Lk l v.toNat) (Lo l) (yL s) v.toNat (yG s) (yD s), cmd (Lo l) (yL s) v.toNat (yG s) (yD s)))
  else if k = 1 then ((yHe s, yHo s + v, yLo s), s.2)
  else if k = 2 then (s.1, s.2.1, yL s, fod (yL s) (yG s), yD s)
  else if k = 3 then (s.1, s.2.1, yL s, slt (yL s) (yG s) (yD s), yD s)
  else if k = 4 then (s.1, s.2.1, (yL s).filter (fun c => c != v.toNat), yG s, yD s)
  else if k = 5 then (s.1, s.2.1, if v.toNat ∈ yL s then yL s else yL s ++ [v.toNat], yG s, yD s)
  else (s.1, s.2.1, v.toNat :: (yL s).filter (fun c => c != v.toNat), yG s, yD s)
def YK : List Nat := [46, 66, 67, 68, 69, 70]
theorem MP_k {I I' : jx_I} {m : Nat} {P : PLT} {ks : List Nat} (h : MP I m P) (hf : FK m ks I I') (h56 : 56 ∉ ks) : MP I' m P := ⟨by rw [hf.2 56 h56]; exact h.1, fun k e he => by rw [hf.1 (m + 1372 + k) (by omega) (by omega) (by omega)]; exact h.2.1 k e he, fun k e he => by rw [hf.1 (m + 1614 + k) (by omega) (by omega) (by omega)]; exact h.2.2.1 k e he, fun k e he => by rw [hf.1 (m + 1856 + k) (by omega) (by omega) (by omega)]; exact h.2.2.2 k e he⟩
theorem MR_fr {I I' : jx_I} {m : Nat} {l : LT} {s : RN} (h : MR I m l s) (hW : WT l) (hF : FR (m + 1286) (m + 1287) I I') : MR I' m l s := by
  have e := hF m (by omega)
  exact ⟨⟨by rw [e]; exact h.1.1, by rw [e]; exact h.1.2.1, by rw [e]; exact h.1.2.2.1, by rw [e]; exact h.1.2.2.2.1, by rw [e]; exact h.1.2.2.2.2⟩, MN_c h.2 hW (by rw [e]) (fun q h1 h2 => hF q (by omega))⟩
theorem MR_dw {I : jx_I} {m : Nat} {l : LT} {s : RN} {d w : Int} (h : MR I m l s) (hW : WT l) (hd : -2147483648 ≤ d ∧ d < 2147483648) (hw : -2147483648 ≤ w ∧ w < 2147483648) : MR (jx_u (jx_u I m 70 (Int32.ofInt w)) m 69 (Int32.ofInt d)) m l (s.1, (d, w), s.2.2) := by
  have k : ∀ j, j ≠ 69 → j ≠ 70 → jx_u (jx_u I m 70 (Int32.ofInt w)) m 69 (Int32.ofInt d) m j = I m j := fun j h1 h2 => by rw [jx_u_k _ _ _ _ (by omega), jx_u_k _ _ _ _ (by omega)]
  exact ⟨⟨by rw [k 66 (by decide) (by decide)]; exact h.1.1, by rw [k 67 (by decide) (by decide)]; exact h.1.2.1, by rw [k 68 (by decide) (by decide)]; exact h.1.2.2.1, by rw [jx_u_s]; exact jy_toInt hd, by rw [jx_u_k _ _ _ _ (by omega), jx_u_s]; exact jy_toInt hw⟩, MN_c h.2 hW (k 46 (by decide) (by decide)) (fun q h1 h2 => by rw [jx_u_r _ _ _ (by omega), jx_u_r _ _ _ (by omega)])⟩
theorem cts_y {s : RN} (h : yWo s = 0) (h2 : yDo s ≠ 300) : cts s = (s.1, (yDo s + 1, 0), s.2.2) := if_pos ⟨h, h2⟩
theorem cts_n {s : RN} (h : ¬ (yWo s = 0 ∧ yDo s ≠ 300)) : cts s = (s.1, (yDo s, 1), s.2.2) := if_neg h
/-- GrievingCamelsModel.counts -/
theorem cz_308 {V : jx_V} (hV : V.1.stackTraces = false) {X : jx_X} {R : jx_R} {I : jx_I} {a0 : Nat} {l : LT} {s : RN}
    (hM : MX X R a0) (hW : WT l) (hR : MR I a0 l s) (hr : WR 0 l s)
    {QE : String → jx_I → Prop} : jc V 1 308 (0, 0) [.ref a0] X I R (fun rv I' => rv = some (jy (1 - yWo (cts s))) ∧ MR I' a0 l (cts s) ∧ FK a0 [69, 70] I I') QE := by
  have hW0 := hW.1
  refine wm_308 hV   (fun J23 J43 hJJ => ?_)
  obtain ⟨hJ23, hJ43⟩ := hJJ
  have h70 := hR.1.2.2.2.2
  have h69 := hR.1.2.2.2.1
  have hw := hr.2.2.2.2.1
  have hdn := hr.2.2.2.1
  unfold wz_308
  refine ⟨s_M_0 hM, ?_⟩
  refine ⟨fun hq1 => ?_, fun hq1 => ?_⟩
  · refine hJ23 _ _ _ ?_
    unfold wz_308_23
    refine ⟨s_M_0 hM, by omega, ?_⟩
    intro I4 e_I4; subst e_I4
    have e9 : ∀ v, (jx_u I a0 70 v a0 69).toInt = yDo s := fun v => by rw [jx_u_k _ _ _ _ (by omega)]; exact h69
    simp only [-eq_self, e9]
    refine ⟨s_M_0 hM, ?_⟩
    refine ⟨fun hq2 => ?_, fun hq2 => ?_⟩
    · refine hJ43 _ _ _ _ ?_
      unfold wz_308_43
      refine ⟨s_M_0 hM, ?_⟩
      intro I7 e_I7; subst e_I7
      refine ⟨s_M_0 hM, ?_⟩
      refine ⟨fun hq3 => ?_, fun hq3 => ?_⟩
      · exfalso
        rw [jx_u_s] at hq2
        exact absurd hq2 (by decide)
      · exfalso
        rw [jx_u_s] at hq2
        exact absurd hq2 (by decide)
    · refine hJ43 _ _ _ _ ?_
      unfold wz_308_43
      refine ⟨s_M_0 hM, ?_⟩
      intro I7 e_I7; subst e_I7
      refine ⟨s_M_0 hM, ?_⟩
      refine ⟨fun hq4 => ?_, fun hq4 => ?_⟩
      · have e : yWo s ≠ 0 ∨ yDo s = 300 := by omega
        rw [cts_n (by omega), show yDo s + 0 = yDo s by omega]
        exact ⟨rfl, MR_dw hR hW (by omega) (by omega), FK_f (FK_f FK_refl (by decide)) (by decide)⟩
      · exfalso
        rw [jx_u_k _ _ _ _ (by omega), jx_u_s] at hq4
        exact absurd hq4 (by decide)
  · refine ⟨fun hq5 => ?_, fun hq5 => ?_⟩
    · refine hJ23 _ _ _ ?_
      unfold wz_308_23
      refine ⟨s_M_0 hM, by omega, ?_⟩
      intro I4 e_I4; subst e_I4
      have e9 : ∀ v, (jx_u I a0 70 v a0 69).toInt = yDo s := fun v => by rw [jx_u_k _ _ _ _ (by omega)]; exact h69
      simp only [-eq_self, e9]
      refine ⟨s_M_0 hM, ?_⟩
      refine ⟨fun hq6 => ?_, fun hq6 => ?_⟩
      · refine hJ43 _ _ _ _ ?_
        unfold wz_308_43
        refine ⟨s_M_0 hM, ?_⟩
        intro I7 e_I7; subst e_I7
        refine ⟨s_M_0 hM, ?_⟩
        refine ⟨fun hq7 => ?_, fun hq7 => ?_⟩
        · exfalso
          rw [jx_u_k _ _ _ _ (by omega), jx_u_s] at hq7
          exact absurd hq7 (by decide)
        · rw [cts_y (by omega) (by omega)]
          exact ⟨rfl, MR_dw hR hW (by omega) (by omega), FK_f (FK_f FK_refl (by decide)) (by decide)⟩
      · refine hJ43 _ _ _ _ ?_
        unfold wz_308_43
        refine ⟨s_M_0 hM, ?_⟩
        intro I7 e_I7; subst e_I7
        refine ⟨s_M_0 hM, ?_⟩
        refine ⟨fun hq8 => ?_, fun hq8 => ?_⟩
        · exfalso
          rw [jx_u_s] at hq6
          exact absurd hq6 (by decide)
        · exfalso
          rw [jx_u_s] at hq6
          exact absurd hq6 (by decide)
    · refine hJ23 _ _ _ ?_
      unfold wz_308_23
      refine ⟨s_M_0 hM, by omega, ?_⟩
      intro I4 e_I4; subst e_I4
      have e9 : ∀ v, (jx_u I a0 70 v a0 69).toInt = yDo s := fun v => by rw [jx_u_k _ _ _ _ (by omega)]; exact h69
      simp only [-eq_self, e9]
      refine ⟨s_M_0 hM, ?_⟩
      refine ⟨fun hq9 => ?_, fun hq9 => ?_⟩
      · refine hJ43 _ _ _ _ ?_
        unfold wz_308_43
        refine ⟨s_M_0 hM, ?_⟩
        intro I7 e_I7; subst e_I7
        refine ⟨s_M_0 hM, ?_⟩
        refine ⟨fun hq10 => ?_, fun hq10 => ?_⟩
        · exfalso
          rw [jx_u_s] at hq9
          exact absurd hq9 (by decide)
        · exfalso
          rw [jx_u_s] at hq9
          exact absurd hq9 (by decide)
      · refine hJ43 _ _ _ _ ?_
        unfold wz_308_43
        refine ⟨s_M_0 hM, ?_⟩
        intro I7 e_I7; subst e_I7
        refine ⟨s_M_0 hM, ?_⟩
        refine ⟨fun hq11 => ?_, fun hq11 => ?_⟩
        · have e : yWo s ≠ 0 ∨ yDo s = 300 := by omega
          rw [cts_n (by omega), show yDo s + 0 = yDo s by omega]
          exact ⟨rfl, MR_dw hR hW (by omega) (by omega), FK_f (FK_f FK_refl (by decide)) (by decide)⟩
        · exfalso
          rw [jx_u_k _ _ _ _ (by omega), jx_u_s] at hq11
          exact absurd hq11 (by decide)
