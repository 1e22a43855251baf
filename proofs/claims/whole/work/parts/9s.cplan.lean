/-! ===== plan ===== -/
theorem CPR_S {I : jx_I} {y : Nat} {z : PS} (h : CPR I y 0 0 0 z) (h11 : (I y 11).toInt = ((0 + z.1.length : Nat) : Int)) : CPS I y (z.1, z.2.1, z.2.2.1) ∧ CPV I y (z.1, z.2.1, z.2.2.1) := by
  refine ⟨⟨by rw [h11, Nat.zero_add], fun k e he => ?_⟩, fun i v hi => ?_⟩
  · have h1 := h.1 k e he
    unfold CS1 at h1
    rw [Nat.zero_add] at h1
    refine ⟨h1.1.1, h1.1.2.1, h1.1.2.2.1, h1.1.2.2.2, fun h8 t ht => ?_⟩
    have h2 := h1.2 h8 t (by rw [Nat.sub_zero]; exact ht)
    refine ⟨h2.1, h2.2.1, h2.2.2.1, fun i v a b c => ?_⟩
    have h3 := h2.2.2.2 i v (by omega) (by omega) c
    rw [Nat.zero_add] at h3
    exact h3
  · have h1 := h.2 i v hi
    rw [Nat.zero_add] at h1
    exact h1
theorem plo_ok {B : List Int} {n ln lm : Nat} {r : PS} (hln : ln ≤ 10) (hlm : lm ≤ 8) (h200 : (B.take n).length ≤ 200) (h : plo B n ln lm = .ok r) : r.1.length ≤ 50 ∧ r.2.1.length ≤ r.1.length ∧ r.2.2.1.length ≤ 100 ∧ WQ ln lm 0 0 0 r.1 r.2.1 r.2.2.1 := by
  obtain ⟨h1, h2, h3, h4, h5⟩ := pSteps_ok hln hlm _ _ _ _ _ _ _ (Or.inl (AT_s (Nat.zero_le _)).1) h
  have h41 := h4.1
  have hs := (AT_s (T := B.take n) (p := 0) (Nat.zero_le _)).2
  exact ⟨by omega, h2, by omega, h5⟩
theorem plo_WP {B : List Int} {n : Nat} {l : LT} {r : PS} (hW : WT l) (h200 : (B.take n).length ≤ 200) (h : plo B n (Ln l) (Lm l) = .ok r) : WP l (r.1, r.2.1, r.2.2.1) := by
  obtain ⟨h1, h2, h3, h4⟩ := plo_ok hW.1.1 hW.1.2 h200 h
  refine ⟨⟨by show r.1.length ≤ 100; omega, by show r.2.1.length ≤ 100; omega, by show r.2.2.1.length ≤ 160; omega⟩, fun k e he => ?_, fun k e he => ?_, fun k e he => ?_⟩
  · have g := h4.1 k e he
    rw [Nat.zero_add, Nat.zero_add, Nat.zero_add] at g
    exact ⟨g.1, g.2.1, g.2.2.1, g.2.2.2.1, fun h => (g.2.2.2.2.1 h).2, g.2.2.2.2.2⟩
  · have g := h4.2.1 e (List.mem_of_getElem? he)
    rw [Nat.zero_add] at g
    exact ⟨g.2.1, g.2.2.1, g.2.2.2.1, g.2.2.2.2⟩
  · exact h4.2.2 e (List.mem_of_getElem? he)
/-- the class's two Plans: the one that stands, the spare one -/
def PYs (R : jx_R) (b y y2 : Nat) : Prop := R b 13 = some y ∧ R b 14 = some y2 ∧ ((y = b + 58 ∧ y2 = b + 70) ∨ (y = b + 70 ∧ y2 = b + 58))
/-- only the Tape and the spare Plan change -/
def FCP (b y2 : Nat) (I I' : jx_I) : Prop := ∀ q, q ≠ b + 1 → (q < y2 ∨ y2 + 12 ≤ q) → I' q = I q
def PLC (R R' : jx_R) (I I' : jx_I) (b y y2 : Nat) : PX PS → Prop
  | .ok r => PY R' I' b y2 (r.1, r.2.1, r.2.2.1) ∧ R' = jx_u (jx_u R b 13 (some y2)) b 14 (some y) ∧ FCP b y2 I I'
  | .error _ => R' = R ∧ FCP b y2 I I'
/-- what was fed -/
def TPB (I : jx_I) (b : Nat) (B : List Int) : Prop := (I (b + 1) 1).toInt = (B.length : Int) ∧ B.length ≤ 600 ∧ ∀ (k : Nat) (x : Int), B[k]? = some x → (I (b + 2) k).toInt = x
/-- GrievingCamels.plan -/
theorem cz_178 {V : jx_V} (hV : V.1.stackTraces = false) {X : jx_X} {R : jx_R} {I : jx_I} {a0 : Nat} {a1 : Int} {ld : Nat} {l : LT} {c : CT} {B : List Int} {y y2 : Nat}
    (h : GX X R I a0 ld l c) (hB : TPB I a0 B) (hys : PYs R a0 y y2) (r_a1 : -2147483648 ≤ a1 ∧ a1 < 2147483648)
    : jd V 201 178 (1, 6) [.ref a0, jy a1] X I R (fun rv I' R' => nz (0 ≤ a1 ∧ a1 ≤ (B.length : Int) ∧ a1 ≤ 200) 2 none = none ∧ rv = some (jy (plA (plo B a1.toNat (Ln l) (Lm l)))) ∧ (I' (a0 + 1) 8).toInt = plF (plo B a1.toNat (Ln l) (Lm l)) ∧ (I' (a0 + 1) 1).toInt = 0 ∧ PLC R R' I I' a0 y y2 (plo B a1.toNat (Ln l) (Lm l))) (fun E I' R' => ∃ k, nz (0 ≤ a1 ∧ a1 ≤ (B.length : Int) ∧ a1 ≤ 200) 2 none = some k ∧ E = (jx_exe k).1 ∧ I' = rfs I a0 k ∧ R' = R) := by
  have hW := h.2.2.2.1
  have hW0 := hW.1
  refine wm_178 hV (by omega)  (fun J28 hJJ => ?_)
  have hJ28 := hJJ
  have hl := GX_l h
  have hD := h.2.2.1; have hS := h.2.2.2.2.1; have hC := h.2.2.2.2.2.1; have hlo := h.2.1.2
  have hyy := hys.2.2
  have hyP : BX X R y TPlan := by rcases hyy with ⟨e, _⟩ | ⟨e, _⟩; rw [e]; exact b_GC_58 h.1; rw [e]; exact b_GC_70 h.1
  have hy2P : BX X R y2 TPlan := by rcases hyy with ⟨_, e⟩ | ⟨_, e⟩; rw [e]; exact b_GC_70 h.1; rw [e]; exact b_GC_58 h.1
  have hTP := b_GC_1 h.1
  obtain ⟨hB1, hB6, hBb⟩ := hB
  obtain ⟨T, hTd⟩ : ∃ T, T = B.take a1.toNat := ⟨_, rfl⟩
  have hplo : plo B a1.toNat (Ln l) (Lm l) = pSteps T (Ln l) (Lm l) (T.length + 1) 0 (skB T 0) 0 0 0 := by unfold plo; rw [← hTd]
  unfold wz_178
  refine ⟨fun hq1 => ?_, fun hq1 => ?_⟩
  · refine hJ28 _ _ _ _ ?_
    unfold wz_178_28
    refine ⟨s_GC_0 h.1, ?_⟩
    refine ⟨_, _, cz_189 hV h.1 (by omega), fun Ex Ix h9 => ⟨2, by rw [nz_f (by omega)], h9.1, h9.2.1, rfl⟩, ?_⟩
    rintro _ I10 ⟨rfl, e9, hp⟩; replace e9 := e9.symm; subst e9
    exact absurd rfl hp
  · refine ⟨s_GC_0 h.1, _, r_GC_0_0 h.1, ?_⟩
    try simp only [-eq_self, hB1]
    refine ⟨s_Tape_0 (b_GC_1 h.1), ?_⟩
    try simp only [-eq_self, hB1]
    refine ⟨fun hq2 => ?_, fun hq2 => ?_⟩
    · refine hJ28 _ _ _ _ ?_
      unfold wz_178_28
      refine ⟨s_GC_0 h.1, ?_⟩
      refine ⟨_, _, cz_189 hV h.1 (by omega), fun Ex Ix h9 => ⟨2, by rw [nz_f (by omega)], h9.1, h9.2.1, rfl⟩, ?_⟩
      rintro _ I10 ⟨rfl, e9, hp⟩; replace e9 := e9.symm; subst e9
      exact absurd rfl hp
    · refine ⟨fun hq3 => ?_, fun hq3 => ?_⟩
      · refine hJ28 _ _ _ _ ?_
        unfold wz_178_28
        refine ⟨s_GC_0 h.1, ?_⟩
        refine ⟨_, _, cz_189 hV h.1 (by omega), fun Ex Ix h9 => ⟨2, by rw [nz_f (by omega)], h9.1, h9.2.1, rfl⟩, ?_⟩
        rintro _ I10 ⟨rfl, e9, hp⟩; replace e9 := e9.symm; subst e9
        exact absurd rfl hp
      · have hTl : (T.length : Int) = a1 := by rw [hTd, List.length_take]; omega
        have hT200 : T.length ≤ 200 := by omega
        have hbT : ∀ (k : Nat) (x : Int), T[k]? = some x → (I (a0 + 1 + 1) k).toInt = x := by
          intro k x h
          rw [hTd, List.getElem?_take] at h
          split at h
          · exact hBb k x h
          · cases h
        have hnz : nz (0 ≤ a1 ∧ a1 ≤ (B.length : Int) ∧ a1 ≤ 200) 2 none = none := nz_t ⟨by omega, by omega, by omega⟩
        refine hJ28 _ _ _ _ ?_
        unfold wz_178_28
        refine ⟨s_GC_0 h.1, ?_⟩
        refine ⟨_, _, cz_189 hV h.1 (by omega), fun Ex Ix h9 => absurd h9.2.2 (by decide), ?_⟩
        rintro _ I10 ⟨rfl, e9, hp⟩; replace e9 := e9.symm; subst e9
        refine ⟨rfl, ?_⟩
        refine ⟨s_GC_0 h.1, _, r_GC_0_0 h.1, s_Tape_0 (b_GC_1 h.1), ?_⟩
        refine ⟨_, cz_104 (T := T) hV hTP hB1 hTl (by omega) (by omega) hbT, ?_⟩
        rintro _ I18 ⟨rfl, hT18, hF18⟩
        refine ⟨rfl, ?_⟩
        refine ⟨_, hys.2.1, s_Plan_0 hy2P, ?_⟩
        refine ⟨_, cz_55 hV hy2P, ?_⟩
        rintro _ I25 ⟨rfl, e25⟩
        refine ⟨rfl, ?_⟩
        have hq25 : ∀ q, q ≠ y2 → I25 q = I18 q := fun q hq => by rw [e25, jx_u_r _ _ _ hq, jx_u_r _ _ _ hq]
        have hpre : CPre I25 y2 (a0 + 1) ld T (B.length : Int) (Ln l) (Lm l) 0 0 (skB T 0) := ⟨by rw [e25]; exact CST_w (CST_w ⟨(AT_s (Nat.zero_le _)).1, _, _, _, hT18⟩ (by omega)) (by omega), by rw [e25, jx_u_k _ _ _ _ (by decide), jx_u_s]; rfl, by rw [e25, jx_u_s]; rfl, LLM_r (LLM_r hD.1 (hF18 ld (by omega))) (hq25 ld (by omega))⟩
        have hF25 : FPz y2 (a0 + 1) 0 0 I I25 := by rw [e25]; exact FPz_y (FPz_y (FPz_t hF18 (by omega)))
        refine ⟨_, h.2.1.1, ?_⟩
        refine ⟨_, by omega, _, G56_e (G5_all hV hy2P hTP hl hW0.1 hW0.2 (by omega) (by omega) hT200 6 0 (by omega) rfl) (d := 200) (f := T.length + 1) (t := 0) rfl hpre ⟨Nat.zero_le _, Nat.le_refl _, Nat.zero_le _⟩ (by omega) (by omega), ?_⟩
        rintro _ I33 ⟨⟨r339, rfl, ho33⟩, hF33⟩
        refine ⟨_, rfl, ?_⟩
        refine ⟨_, cz_105 hV hTP, ?_⟩
        rintro _ I37 ⟨rfl, e37⟩
        refine ⟨rfl, ?_⟩
        refine ⟨by omega, ?_⟩
        refine ⟨fun hq4 => ?_, fun hq4 => ?_⟩
        · refine ⟨_, hys.1, ?_⟩
          intro R42 e_R42; subst e_R42
          intro R43 e_R43; subst e_R43
          refine ⟨_, (by rw [jx_u_k _ _ _ _ (by omega), jx_u_s]), s_Plan_0 hy2P, ?_⟩
          obtain ⟨_, z, hz, hO, hN⟩ := ho33.resolve_right (fun k => hq4 k.1)
          obtain ⟨hSt, hCR, hO11, hO12⟩ := hO
          obtain ⟨_, wf9, we9, nf9, hT9⟩ := hSt
          rw [← hplo] at hz
          have hok := plo_ok hW0.1 hW0.2 (by rw [← hTd]; exact hT200) hz
          have hq37 : ∀ q, q ≠ a0 + 1 → I37 q = I33 q := fun q hq => by rw [e37, jx_u_r _ _ _ hq]
          obtain ⟨g1, g2⟩ := CPR_S hCR hO11
          have ek : ∀ q, y2 ≤ q → q < y2 + 12 → I37 q = I33 q := fun q h1 h2 => hq37 q (by omega)
          have hnb := hN 100 (by have := hok.1; omega)
          rw [Nat.zero_add] at hnb
          refine ⟨hnz, ?_, ?_, ?_, ?_⟩
          · rw [hz, hq37 y2 (by omega), hO11, Nat.zero_add]; rfl
          · rw [hz, e37, jx_u_k _ _ _ _ (by decide)]; exact hT9.1.2.2.2.2.2.2.2
          · rw [e37, jx_u_s]; rfl
          · rw [hz]
            refine ⟨⟨by rw [jx_u_k _ _ _ _ (by omega), jx_u_s], by omega, CPS_of g1 ek, CPV_of g2 ek, ?_⟩, rfl, fun q h1 h2 => ?_⟩
            · rw [ek (y2 + 3) (by omega) (by omega)]
              exact NBf_P (P := (z.1, z.2.1, z.2.2.1)) _ _ _ _ hnb (Nat.le_refl _)
            · rw [hq37 q h1]
              by_cases e : q = y2
              · omega
              · exact (FPz_trans hF25 hF33).1 q h1 e (by omega)
        · obtain ⟨_, e, he, hce, pe, wf9, we9, nf9, hT9⟩ := ho33.resolve_left (fun k => by omega)
          rw [← hplo] at he
          have h77 := hT9.1.2.2.2.2.2.2.1
          refine ⟨hnz, ?_, ?_, ?_, ?_⟩
          · rw [he, e37, jx_u_k _ _ _ _ (by decide), h77]; rfl
          · rw [he, e37, jx_u_k _ _ _ _ (by decide)]; exact hT9.1.2.2.2.2.2.2.2
          · rw [e37, jx_u_s]; rfl
          · rw [he]
            refine ⟨rfl, fun q h1 h2 => ?_⟩
            rw [e37, jx_u_r _ _ _ h1]
            by_cases e : q = y2
            · omega
            · exact (FPz_trans hF25 hF33).1 q h1 e (by omega)
