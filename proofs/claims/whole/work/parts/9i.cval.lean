/-! ===== the class reads a value of a plan ===== -/
/-- the Tape stands at a place, or told a fault -/
def CST (I : jx_I) (tp : Nat) (T : List Int) (fd : Int) : PX Nat → Prop
  | .ok s => AT T s ∧ ∃ wf we nf : Int, TX I tp T fd (s : Int) wf we nf 0 (-1)
  | .error e => (1 ≤ e.1 ∧ e.1 ≤ 3) ∧ ∃ p wf we nf : Int, TX I tp T fd p wf we nf e.1 (e.2 : Int)
/-- of a Plan at y and a Tape at tp only steps from n, values from v on change -/
def FPz (y tp n v : Nat) (I I' : jx_I) : Prop := (∀ q, q ≠ tp → q ≠ y → (q < y + 1 ∨ y + 12 ≤ q) → I' q = I q) ∧ (∀ j i, 1 ≤ j → j ≤ 8 → i < n → I' (y + j) i = I (y + j) i) ∧ ∀ j i, 9 ≤ j → j ≤ 11 → i < v → I' (y + j) i = I (y + j) i
theorem FPz_refl {y tp n v : Nat} {I : jx_I} : FPz y tp n v I I := ⟨fun _ _ _ _ => rfl, fun _ _ _ _ _ => rfl, fun _ _ _ _ _ => rfl⟩
theorem FPz_trans {y tp n v : Nat} {I I1 I2 : jx_I} (h : FPz y tp n v I I1) (h2 : FPz y tp n v I1 I2) : FPz y tp n v I I2 := ⟨fun q a b c => (h2.1 q a b c).trans (h.1 q a b c), fun j i a b c => (h2.2.1 j i a b c).trans (h.2.1 j i a b c), fun j i a b c => (h2.2.2 j i a b c).trans (h.2.2 j i a b c)⟩
theorem FPz_mono {y tp n v n2 v2 : Nat} {I I' : jx_I} (h : FPz y tp n v I I') (h1 : n2 ≤ n) (h2 : v2 ≤ v) : FPz y tp n2 v2 I I' := ⟨h.1, fun j i a b c => h.2.1 j i a b (by omega), fun j i a b c => h.2.2 j i a b (by omega)⟩
theorem FPz_t {y tp n v : Nat} {I I' : jx_I} (h : FR tp (tp + 1) I I') (hd : tp + 1 ≤ y ∨ y + 12 ≤ tp) : FPz y tp n v I I' := ⟨fun q a b c => h q (by omega), fun j i a b c => by rw [h (y + j) (by omega)], fun j i a b c => by rw [h (y + j) (by omega)]⟩
theorem FPz_y {y tp n v k : Nat} {x : Int32} {I I' : jx_I} (h : FPz y tp n v I I') : FPz y tp n v I (jx_u I' y k x) := ⟨fun q a b c => by rw [jx_u_r _ _ _ b]; exact h.1 q a b c, fun j i a b c => by rw [jx_u_r _ _ _ (by omega)]; exact h.2.1 j i a b c, fun j i a b c => by rw [jx_u_r _ _ _ (by omega)]; exact h.2.2 j i a b c⟩
theorem FPz_s {y tp n v j i : Nat} {x : Int32} {I I' : jx_I} (h : FPz y tp n v I I') (hj : 1 ≤ j ∧ j ≤ 8) (hi : n ≤ i) : FPz y tp n v I (jx_u I' (y + j) i x) := ⟨fun q a b c => by rw [jx_u_r _ _ _ (by omega)]; exact h.1 q a b c, fun j2 i2 a b c => by
  by_cases e : j2 = j
  · subst e; rw [jx_u_k _ _ _ _ (by omega)]; exact h.2.1 j2 i2 a b c
  · rw [jx_u_r _ _ _ (by omega)]; exact h.2.1 j2 i2 a b c, fun j2 i2 a b c => by rw [jx_u_r _ _ _ (by omega)]; exact h.2.2 j2 i2 a b c⟩
theorem FPz_v {y tp n v j i : Nat} {x : Int32} {I I' : jx_I} (h : FPz y tp n v I I') (hj : 9 ≤ j ∧ j ≤ 11) (hi : v ≤ i) : FPz y tp n v I (jx_u I' (y + j) i x) := ⟨fun q a b c => by rw [jx_u_r _ _ _ (by omega)]; exact h.1 q a b c, fun j2 i2 a b c => by rw [jx_u_r _ _ _ (by omega)]; exact h.2.1 j2 i2 a b c, fun j2 i2 a b c => by
  by_cases e : j2 = j
  · subst e; rw [jx_u_k _ _ _ _ (by omega)]; exact h.2.2 j2 i2 a b c
  · rw [jx_u_r _ _ _ (by omega)]; exact h.2.2 j2 i2 a b c⟩
theorem TX_w {I : jx_I} {t q k : Nat} {x : Int32} {T : List Int} {fd p wf we nf fk fa : Int} (h : TX I t T fd p wf we nf fk fa) (hq : q ≠ t ∧ q ≠ t + 1) : TX (jx_u I q k x) t T fd p wf we nf fk fa := TX_of h (by rw [jx_u_r _ _ _ (by omega)]) (by rw [jx_u_r _ _ _ (by omega)])
theorem CST_w {I : jx_I} {t q k : Nat} {x : Int32} {T : List Int} {fd : Int} {s : PX Nat} (h : CST I t T fd s) (hq : q ≠ t ∧ q ≠ t + 1) : CST (jx_u I q k x) t T fd s := by
  cases s with
  | ok s => obtain ⟨h1, a, b, c, h2⟩ := h; exact ⟨h1, a, b, c, TX_w h2 hq⟩
  | error e => obtain ⟨h1, p, a, b, c, h2⟩ := h; exact ⟨h1, p, a, b, c, TX_w h2 hq⟩
/-- a number read by the Tape -/
theorem NB_p {I : jx_I} {tp : Nat} {T : List Int} {p : Nat} {lo hi r q fk fa fd wf we nf : Int} (hp : p ≤ T.length) (h : NB T p lo hi r q fk fa) (hT : TX I tp T fd q wf we nf fk fa) : (∃ q2 : Nat, pNum T lo hi p = .ok (r, q2) ∧ CST I tp T fd (.ok q2) ∧ lo ≤ r ∧ r ≤ hi) ∨ (∃ e, pNum T lo hi p = .error e ∧ r = -1 ∧ CST I tp T fd (.error e)) := by
  rcases h with ⟨h1, h2, h3, h4, h5, h6, h7⟩ | ⟨h1, h2, h3, h4⟩ | ⟨h1, h2, h3, h4, h5⟩
  · subst h4; subst h5; subst h6; subst h7
    exact Or.inl ⟨_, pNum_y h1 ⟨h2, h3⟩, ⟨(AT_s (dig_le hp)).1, _, _, _, hT⟩, h2, h3⟩
  · subst h3; subst h4
    exact Or.inr ⟨_, pNum_e1 h1, h2, ⟨show (1 : Int) ≤ 1 by decide, show (1 : Int) ≤ 3 by decide⟩, _, _, _, _, hT⟩
  · subst h4; subst h5
    exact Or.inr ⟨_, pNum_e2 h1 h2, h3, ⟨show (1 : Int) ≤ 2 by decide, show (2 : Int) ≤ 3 by decide⟩, _, _, _, _, hT⟩
/-- what readTerm writes -/
def CV1 (I : jx_I) (y i : Nat) (sg : Int) (e : VA) : Prop := (I (y + 9) i).toInt = (e.2.1 : Int) ∧ (I (y + 10) i).toInt = e.2.2 ∧ (I (y + 11) i).toInt = sg
/-- GrievingCamels$Plan.kindOfTerm -/
theorem cz_64 {V : jx_V} (hV : V.1.stackTraces = false) {X : jx_X} {R : jx_R} {I : jx_I} {a0 : Nat} {a1 : Nat} {T : List Int} {fd p nf fk fa : Int} {w : Nat}
    (ht : BX X R a1 TTape) (hT : TX I a1 T fd p (w : Int) (w + (wrd T w).length : Nat) nf fk fa) (hw : w ≤ T.length)
    {QE : String → jx_I → Prop} : jc V 6 64 (0, 0) [.ref a0, .ref a1] X I R (fun rv I' => rv = some (jy (if kvl (wrd T w) = 0 then -1 else (kvl (wrd T w) : Int))) ∧ I' = I) QE := by
  refine wm_64 hV   ?_
  unfold wz_64
  refine ⟨s_Tape_0 ht, ?_⟩
  refine ⟨_, cz_117 hV ht hT hw (by omega), ?_⟩
  rintro _ I4 ⟨rfl, e9⟩; replace e9 := e9.symm; subst e9
  refine ⟨_, rfl, ?_⟩
  refine ⟨by omega, ?_⟩
  refine ⟨fun hq1 => ?_, fun hq1 => ?_⟩
  · have c26 := bi_f hq1
    refine ⟨_, cz_117 hV ht hT hw (by omega), ?_⟩
    rintro _ I9 ⟨rfl, e9⟩; replace e9 := e9.symm; subst e9
    refine ⟨_, rfl, ?_⟩
    refine ⟨by omega, ?_⟩
    refine ⟨fun hq2 => ?_, fun hq2 => ?_⟩
    · have c27 := bi_f hq2
      refine ⟨_, cz_117 hV ht hT hw (by omega), ?_⟩
      rintro _ I14 ⟨rfl, e9⟩; replace e9 := e9.symm; subst e9
      refine ⟨_, rfl, ?_⟩
      refine ⟨by omega, ?_⟩
      refine ⟨fun hq3 => ?_, fun hq3 => ?_⟩
      · have c28 := bi_f hq3
        refine ⟨_, cz_117 hV ht hT hw (by omega), ?_⟩
        rintro _ I19 ⟨rfl, e9⟩; replace e9 := e9.symm; subst e9
        refine ⟨_, rfl, ?_⟩
        refine ⟨by omega, ?_⟩
        refine ⟨fun hq4 => ?_, fun hq4 => ?_⟩
        · have c29 := bi_f hq4
          refine ⟨_, cz_117 hV ht hT hw (by omega), ?_⟩
          rintro _ I24 ⟨rfl, e9⟩; replace e9 := e9.symm; subst e9
          refine ⟨_, rfl, ?_⟩
          refine ⟨by omega, ?_⟩
          refine ⟨fun hq5 => ?_, fun hq5 => ?_⟩
          · have c30 := bi_f hq5
            refine ⟨_, cz_117 hV ht hT hw (by omega), ?_⟩
            rintro _ I29 ⟨rfl, e9⟩; replace e9 := e9.symm; subst e9
            refine ⟨_, rfl, ?_⟩
            refine ⟨by omega, ?_⟩
            refine ⟨fun hq6 => ?_, fun hq6 => ?_⟩
            · have c31 := bi_f hq6
              refine ⟨_, cz_117 hV ht hT hw (by omega), ?_⟩
              rintro _ I34 ⟨rfl, e9⟩; replace e9 := e9.symm; subst e9
              refine ⟨_, rfl, ?_⟩
              refine ⟨by omega, ?_⟩
              refine ⟨fun hq7 => ?_, fun hq7 => ?_⟩
              · have c32 := bi_f hq7
                have hk : kvl (wrd T w) = 0 := by unfold kvl; rw [if_neg c26, if_neg c27, if_neg c28, if_neg c29, if_neg c30, if_neg c31, if_neg c32]
                exact ⟨by rw [if_pos hk], rfl⟩
              · have c32 := bi_t hq7
                have hk : kvl (wrd T w) = 7 := by unfold kvl; rw [if_neg c26, if_neg c27, if_neg c28, if_neg c29, if_neg c30, if_neg c31, if_pos c32]
                exact ⟨by rw [if_neg (by omega), hk]; rfl, rfl⟩
            · have c31 := bi_t hq6
              have hk : kvl (wrd T w) = 6 := by unfold kvl; rw [if_neg c26, if_neg c27, if_neg c28, if_neg c29, if_neg c30, if_pos c31]
              exact ⟨by rw [if_neg (by omega), hk]; rfl, rfl⟩
          · have c30 := bi_t hq5
            have hk : kvl (wrd T w) = 5 := by unfold kvl; rw [if_neg c26, if_neg c27, if_neg c28, if_neg c29, if_pos c30]
            exact ⟨by rw [if_neg (by omega), hk]; rfl, rfl⟩
        · have c29 := bi_t hq4
          have hk : kvl (wrd T w) = 4 := by unfold kvl; rw [if_neg c26, if_neg c27, if_neg c28, if_pos c29]
          exact ⟨by rw [if_neg (by omega), hk]; rfl, rfl⟩
      · have c28 := bi_t hq3
        have hk : kvl (wrd T w) = 3 := by unfold kvl; rw [if_neg c26, if_neg c27, if_pos c28]
        exact ⟨by rw [if_neg (by omega), hk]; rfl, rfl⟩
    · have c27 := bi_t hq2
      have hk : kvl (wrd T w) = 2 := by unfold kvl; rw [if_neg c26, if_pos c27]
      exact ⟨by rw [if_neg (by omega), hk]; rfl, rfl⟩
  · have c26 := bi_t hq1
    have hk : kvl (wrd T w) = 1 := by unfold kvl; rw [if_pos c26]
    exact ⟨by rw [if_neg (by omega), hk]; rfl, rfl⟩
/-- GrievingCamels$Plan.kindOfNestedWord -/
theorem cz_66 {V : jx_V} (hV : V.1.stackTraces = false) {X : jx_X} {R : jx_R} {I : jx_I} {a0 : Nat} {a1 : Nat} {T : List Int} {fd p nf fk fa : Int} {w : Nat}
    (ht : BX X R a1 TTape) (hT : TX I a1 T fd p (w : Int) (w + (wrd T w).length : Nat) nf fk fa) (hw : w ≤ T.length)
    {QE : String → jx_I → Prop} : jc V 6 66 (0, 0) [.ref a0, .ref a1] X I R (fun rv I' => rv = some (jy (if wrd T w = sbi 23 then 7 else if wrd T w = sbi 24 then 8 else if wrd T w = sbi 25 then 9 else -1)) ∧ I' = I) QE := by
  refine wm_66 hV   ?_
  unfold wz_66
  refine ⟨s_Tape_0 ht, ?_⟩
  refine ⟨_, cz_117 hV ht hT hw (by omega), ?_⟩
  rintro _ I4 ⟨rfl, e9⟩; replace e9 := e9.symm; subst e9
  refine ⟨_, rfl, ?_⟩
  refine ⟨by omega, ?_⟩
  refine ⟨fun hq1 => ?_, fun hq1 => ?_⟩
  · have c23 := bi_f hq1
    refine ⟨_, cz_117 hV ht hT hw (by omega), ?_⟩
    rintro _ I9 ⟨rfl, e9⟩; replace e9 := e9.symm; subst e9
    refine ⟨_, rfl, ?_⟩
    refine ⟨by omega, ?_⟩
    refine ⟨fun hq2 => ?_, fun hq2 => ?_⟩
    · have c24 := bi_f hq2
      refine ⟨_, cz_117 hV ht hT hw (by omega), ?_⟩
      rintro _ I14 ⟨rfl, e9⟩; replace e9 := e9.symm; subst e9
      refine ⟨_, rfl, ?_⟩
      refine ⟨by omega, ?_⟩
      refine ⟨fun hq3 => ?_, fun hq3 => ?_⟩
      · have c25 := bi_f hq3
        exact ⟨by rw [if_neg c23, if_neg c24, if_neg c25], rfl⟩
      · have c25 := bi_t hq3
        exact ⟨by rw [if_neg c23, if_neg c24, if_pos c25], rfl⟩
    · have c24 := bi_t hq2
      exact ⟨by rw [if_neg c23, if_pos c24], rfl⟩
  · have c23 := bi_t hq1
    exact ⟨by rw [if_pos c23], rfl⟩
/-- GrievingCamels$Plan.kindOfWord -/
theorem cz_65 {V : jx_V} (hV : V.1.stackTraces = false) {X : jx_X} {R : jx_R} {I : jx_I} {a0 : Nat} {a1 : Nat} {T : List Int} {fd p nf fk fa : Int} {w : Nat}
    (hy : BX X R a0 TPlan) (ht : BX X R a1 TTape) (hT : TX I a1 T fd p (w : Int) (w + (wrd T w).length : Nat) nf fk fa) (hw : w ≤ T.length)
    {QE : String → jx_I → Prop} : jc V 7 65 (0, 0) [.ref a0, .ref a1] X I R (fun rv I' => rv = some (jy (kst (wrd T w))) ∧ I' = I) QE := by
  refine wm_65 hV   ?_
  unfold wz_65
  refine ⟨s_Tape_0 ht, ?_⟩
  refine ⟨_, cz_117 hV ht hT hw (by omega), ?_⟩
  rintro _ I4 ⟨rfl, e9⟩; replace e9 := e9.symm; subst e9
  refine ⟨_, rfl, ?_⟩
  refine ⟨by omega, ?_⟩
  refine ⟨fun hq1 => ?_, fun hq1 => ?_⟩
  · have c16 := bi_f hq1
    refine ⟨_, cz_117 hV ht hT hw (by omega), ?_⟩
    rintro _ I9 ⟨rfl, e9⟩; replace e9 := e9.symm; subst e9
    refine ⟨_, rfl, ?_⟩
    refine ⟨by omega, ?_⟩
    refine ⟨fun hq2 => ?_, fun hq2 => ?_⟩
    · have c17 := bi_f hq2
      refine ⟨_, cz_117 hV ht hT hw (by omega), ?_⟩
      rintro _ I14 ⟨rfl, e9⟩; replace e9 := e9.symm; subst e9
      refine ⟨_, rfl, ?_⟩
      refine ⟨by omega, ?_⟩
      refine ⟨fun hq3 => ?_, fun hq3 => ?_⟩
      · have c18 := bi_f hq3
        refine ⟨_, cz_117 hV ht hT hw (by omega), ?_⟩
        rintro _ I19 ⟨rfl, e9⟩; replace e9 := e9.symm; subst e9
        refine ⟨_, rfl, ?_⟩
        refine ⟨by omega, ?_⟩
        refine ⟨fun hq4 => ?_, fun hq4 => ?_⟩
        · have c19 := bi_f hq4
          refine ⟨_, cz_117 hV ht hT hw (by omega), ?_⟩
          rintro _ I24 ⟨rfl, e9⟩; replace e9 := e9.symm; subst e9
          refine ⟨_, rfl, ?_⟩
          refine ⟨by omega, ?_⟩
          refine ⟨fun hq5 => ?_, fun hq5 => ?_⟩
          · have c20 := bi_f hq5
            refine ⟨_, cz_117 hV ht hT hw (by omega), ?_⟩
            rintro _ I29 ⟨rfl, e9⟩; replace e9 := e9.symm; subst e9
            refine ⟨_, rfl, ?_⟩
            refine ⟨by omega, ?_⟩
            refine ⟨fun hq6 => ?_, fun hq6 => ?_⟩
            · have c21 := bi_f hq6
              refine ⟨_, cz_117 hV ht hT hw (by omega), ?_⟩
              rintro _ I34 ⟨rfl, e9⟩; replace e9 := e9.symm; subst e9
              refine ⟨_, rfl, ?_⟩
              refine ⟨by omega, ?_⟩
              refine ⟨fun hq7 => ?_, fun hq7 => ?_⟩
              · have c22 := bi_f hq7
                refine ⟨s_Plan_0 hy, ?_⟩
                refine ⟨_, cz_66 hV ht hT hw, ?_⟩
                rintro _ I40 ⟨rfl, e9⟩; replace e9 := e9.symm; subst e9
                refine ⟨_, rfl, ?_⟩
                exact ⟨by unfold kst; rw [if_neg c16, if_neg c17, if_neg c18, if_neg c19, if_neg c20, if_neg c21, if_neg c22], rfl⟩
              · have c22 := bi_t hq7
                exact ⟨by unfold kst; rw [if_neg c16, if_neg c17, if_neg c18, if_neg c19, if_neg c20, if_neg c21, if_pos c22], rfl⟩
            · have c21 := bi_t hq6
              exact ⟨by unfold kst; rw [if_neg c16, if_neg c17, if_neg c18, if_neg c19, if_neg c20, if_pos c21], rfl⟩
          · have c20 := bi_t hq5
            exact ⟨by unfold kst; rw [if_neg c16, if_neg c17, if_neg c18, if_neg c19, if_pos c20], rfl⟩
        · have c19 := bi_t hq4
          exact ⟨by unfold kst; rw [if_neg c16, if_neg c17, if_neg c18, if_pos c19], rfl⟩
      · have c18 := bi_t hq3
        exact ⟨by unfold kst; rw [if_neg c16, if_neg c17, if_pos c18], rfl⟩
    · have c17 := bi_t hq2
      exact ⟨by unfold kst; rw [if_neg c16, if_pos c17], rfl⟩
  · have c16 := bi_t hq1
    exact ⟨by unfold kst; rw [if_pos c16], rfl⟩
/-- GrievingCamels$Plan.forget -/
theorem cz_55 {V : jx_V} (hV : V.1.stackTraces = false) {X : jx_X} {R : jx_R} {I : jx_I} {a0 : Nat} 
    (hy : BX X R a0 TPlan)
    {QE : String → jx_I → Prop} : jc V 1 55 (0, 0) [.ref a0] X I R (fun rv I' => rv = none ∧ I' = jx_u (jx_u I a0 11 (Int32.ofInt 0)) a0 12 (Int32.ofInt 0)) QE := by
  refine wm_55 hV   ?_
  unfold wz_55
  refine ⟨s_Plan_0 hy, ?_⟩
  intro I2 e_I2; subst e_I2
  intro I3 e_I3; subst e_I3
  exact ⟨rfl, rfl⟩
