/-! ===== the reference reads clauses, chains of numbers ===== -/
abbrev PN : Type := PX (Int × Nat)
abbrev pos (r : Int × Nat) : PX Nat := .ok r.2
def W2 (A : PN) (B : Int → Nat → PN) : PX (Int × Int × Nat) := A.bind (fun a => (B a.1 a.2).bind (fun b => .ok (a.1, b.1, b.2)))
def W3 (A : PN) (B : Int → Nat → PN) (D : Nat → PN) : PX (Int × Int × Int × Nat) := A.bind (fun a => (B a.1 a.2).bind (fun b => (D b.2).bind (fun h => .ok (a.1, b.1, h.1, h.2))))
theorem W2_r {A : PN} {B : Int → Nat → PN} {r : Int} (hr : ∀ v q, A = .ok (v, q) → r = v) : ((A.bind pos).bind (B r)).bind pos = (W2 A B).bind (fun w => .ok w.2.2) := by
  cases A with
  | error e => rfl
  | ok a =>
    have := hr a.1 a.2 rfl
    subst this
    show (B a.1 a.2).bind pos = ((B a.1 a.2).bind _).bind _
    cases B a.1 a.2 with
    | error e => rfl
    | ok b => rfl
theorem W3_r {A : PN} {B : Int → Nat → PN} {D : Nat → PN} {r : Int} (hr : ∀ v q, A = .ok (v, q) → r = v) : ((((A.bind pos).bind (B r)).bind pos).bind D).bind pos = (W3 A B D).bind (fun w => .ok w.2.2.2) := by
  cases A with
  | error e => rfl
  | ok a =>
    have := hr a.1 a.2 rfl
    subst this
    show (((B a.1 a.2).bind pos).bind D).bind pos = ((B a.1 a.2).bind _).bind _
    cases B a.1 a.2 with
    | error e => rfl
    | ok b =>
      show (D b.2).bind pos = ((D b.2).bind _).bind _
      cases D b.2 with
      | error e => rfl
      | ok h => rfl
theorem W2_ok {A : PN} {B : Int → Nat → PN} {w : Int × Int × Nat} (h : W2 A B = .ok w) : ∃ qa, A = .ok (w.1, qa) ∧ B w.1 qa = .ok (w.2.1, w.2.2) := by
  obtain ⟨a, ha, h⟩ := px_ok h
  obtain ⟨b, hb, h⟩ := px_ok h
  cases h
  exact ⟨a.2, ha, hb⟩
theorem W3_ok {A : PN} {B : Int → Nat → PN} {D : Nat → PN} {w : Int × Int × Int × Nat} (h : W3 A B D = .ok w) : ∃ qa qb, A = .ok (w.1, qa) ∧ B w.1 qa = .ok (w.2.1, qb) ∧ D qb = .ok (w.2.2.1, w.2.2.2) := by
  obtain ⟨a, ha, h⟩ := px_ok h
  obtain ⟨b, hb, h⟩ := px_ok h
  obtain ⟨d, hd, h⟩ := px_ok h
  cases h
  exact ⟨a.2, b.2, ha, hb, hd⟩
theorem cRoad_W {T : List Int} {L : LB} {q : Nat} : cRoad T L q = (W3 (pNum T 0 ((Ln L.1 : Int) - 1) q) (fun a => pOth T ((Ln L.1 : Int) - 1) a) (pNum T 1 24)).bind (fun w => .ok (aRoad L w.1.toNat w.2.1.toNat w.2.2.1, w.2.2.2)) := by
  unfold cRoad W3
  cases pNum T 0 ((Ln L.1 : Int) - 1) q with
  | error e => rfl
  | ok a =>
    show (pOth T _ a.1 a.2).bind _ = ((pOth T _ a.1 a.2).bind _).bind _
    cases pOth T ((Ln L.1 : Int) - 1) a.1 a.2 with
    | error e => rfl
    | ok b =>
      show (pNum T 1 24 b.2).bind _ = ((pNum T 1 24 b.2).bind _).bind _
      cases pNum T 1 24 b.2 with
      | error e => rfl
      | ok h => rfl
theorem cHurt_W {T : List Int} {L : LB} {q : Nat} : cHurt T L q = (W3 (pNum T 0 ((Lm L.1 : Int) - 1) q) (fun _ => pNum T 0 ((Ln L.1 : Int) - 1)) (pNum T 1 20)).bind (fun w => .ok (aHurt L w.1.toNat w.2.1.toNat w.2.2.1, w.2.2.2)) := by
  unfold cHurt W3
  cases pNum T 0 ((Lm L.1 : Int) - 1) q with
  | error e => rfl
  | ok a =>
    show (pNum T _ _ a.2).bind _ = ((pNum T _ _ a.2).bind _).bind _
    cases pNum T 0 ((Ln L.1 : Int) - 1) a.2 with
    | error e => rfl
    | ok b =>
      show (pNum T 1 20 b.2).bind _ = ((pNum T 1 20 b.2).bind _).bind _
      cases pNum T 1 20 b.2 with
      | error e => rfl
      | ok h => rfl
theorem cCalf_W {T : List Int} {L : LB} {q : Nat} : cCalf T L q = (W2 (pNum T 0 ((Lm L.1 : Int) - 1) q) (fun a => pOth T ((Lm L.1 : Int) - 1) a)).bind (fun w => .ok (aCalf L w.1.toNat w.2.1, w.2.2)) := by
  unfold cCalf W2
  cases pNum T 0 ((Lm L.1 : Int) - 1) q with
  | error e => rfl
  | ok a =>
    show (pOth T _ a.1 a.2).bind _ = ((pOth T _ a.1 a.2).bind _).bind _
    cases pOth T ((Lm L.1 : Int) - 1) a.1 a.2 with
    | error e => rfl
    | ok b => rfl
theorem cFoe_W {T : List Int} {L : LB} {q : Nat} : cFoe T L q = (W2 (pNum T 0 ((Lm L.1 : Int) - 1) q) (fun a => pOth T ((Lm L.1 : Int) - 1) a)).bind (fun w => .ok (aFoe L w.1.toNat w.2.1.toNat, w.2.2)) := by
  unfold cFoe W2
  cases pNum T 0 ((Lm L.1 : Int) - 1) q with
  | error e => rfl
  | ok a =>
    show (pOth T _ a.1 a.2).bind _ = ((pOth T _ a.1 a.2).bind _).bind _
    cases pOth T ((Lm L.1 : Int) - 1) a.1 a.2 with
    | error e => rfl
    | ok b => rfl
/-- a clause is read but its ; -/
def RCB (I K : jx_I) (m : Nat) (T : List Int) (cnt : Nat) (y : PB) : Prop := FLb m I K ∧ RST K m T (y.bind (fun w => .ok w.2)) ∧ ∀ w, y = .ok w → RLB K m w.1 ∧ (K m 7).toInt = ((cnt + 1 : Nat) : Int) ∧ (K m 25).toInt = 0
/-- a clause is read -/
def RCF (I' : jx_I) (m : Nat) (T : List Int) (cnt : Nat) : PB → Prop
  | .ok w => ROK I' m T w.2 ∧ RLB I' m w.1 ∧ (I' m 7).toInt = ((cnt + 1 : Nat) : Int) ∧ (I' m 25).toInt = 0
  | .error e => RER I' m T e
def cSem (T : List Int) (r : LB × Nat) : PB := (pSgn T 59 r.2).bind (fun q => .ok (r.1, q))
theorem RCB_end {I K K2 : jx_I} {m : Nat} {T : List Int} {cnt : Nat} {y : PB} (h : RCB I K m T cnt y) (hF : FO m [4, 5, 6] K K2) (hS : RST K2 m T ((y.bind (fun w => .ok w.2)).bind (pSgn T 59))) : RCF K2 m T cnt (y.bind (cSem T)) ∧ FLb m I K2 := by
  obtain ⟨h1, _, h3⟩ := h
  refine ⟨?_, FLb_trans h1 (FLb_o hF (by decide))⟩
  cases y with
  | error e => exact hS
  | ok w =>
    obtain ⟨g1, g2, g3⟩ := h3 w rfl
    replace hS : RST K2 m T (pSgn T 59 w.2) := hS
    show RCF K2 m T cnt ((pSgn T 59 w.2).bind (fun q => .ok (w.1, q)))
    cases hp : pSgn T 59 w.2 with
    | error e => rw [hp] at hS; exact hS
    | ok q =>
      rw [hp] at hS
      exact ⟨hS, RLB_o g1 hF (by decide), by rw [hF.2 7 (by decide)]; exact g2, by rw [hF.2 25 (by decide)]; exact g3⟩
/-- what stands behind a clause's word -/
def RC0 (I J : jx_I) (m : Nat) (T : List Int) (cnt : Nat) (L : LB) (q : Nat) : Prop := ROK J m T q ∧ RLB J m L ∧ (J m 7).toInt = ((cnt + 1 : Nat) : Int) ∧ (J m 25).toInt = 0 ∧ FLb m I J
theorem RC0_mk {I I4 I13 : jx_I} {m : Nat} {T : List Int} {cnt w : Nat} {L : LB} {v : Int} (hR : RLB I m L) (h25 : (I m 25).toInt = 0) (hF4 : FO m [4] I I4) (hF13 : FO m [4] I4 I13) (hT : RTX I13 m T (w : Int) 0 (-1)) (hw : w ≤ T.length) (hv : v = ((cnt + 1 : Nat) : Int)) (hc : cnt ≤ 60) : RC0 I (jx_u I13 m 7 (Int32.ofInt v)) m T cnt L (skB T w) := by
  subst hv
  have hF := FO_trans hF4 hF13
  exact ⟨⟨w, hw, rfl, RTX_k hT (by decide)⟩, RLB_k (RLB_o hR hF (by decide)) (by decide), by rw [jx_u_s]; exact jy_toInt (by omega), by rw [jx_u_k _ _ _ _ (by decide), hF.2 25 (by decide)]; exact h25, FLb_f (FLb_o hF (by decide)) (by decide)⟩
/-- a clause whose numbers were read, K; its write, K2 -/
theorem RCB_w {I J K K2 : jx_I} {m : Nat} {T : List Int} {cnt q q2 : Nat} {L L2 : LB} (h0 : RC0 I J m T cnt L q) (hF : FO m [4, 5, 6] J K) (hF2 : FLb m K K2) (hk : ∀ k, K2 m k = K m k) (hS : ROK K2 m T q2) (hL : RLB K2 m L2) : RCB I K2 m T cnt (.ok (L2, q2)) := by
  obtain ⟨h1, h2, h3, h4, h5⟩ := h0
  refine ⟨FLb_trans h5 (FLb_trans (FLb_o hF (by decide)) hF2), hS, fun w hw => ?_⟩
  cases hw
  exact ⟨hL, by rw [hk, hF.2 7 (by decide)]; exact h3, by rw [hk, hF.2 25 (by decide)]; exact h4⟩
theorem RCB_e {I J K : jx_I} {m : Nat} {T : List Int} {cnt q : Nat} {L : LB} {e : Int × Nat} (h0 : RC0 I J m T cnt L q) (hF : FLb m J K) (hE : RER K m T e) : RCB I K m T cnt (.error e) := ⟨FLb_trans h0.2.2.2.2 hF, hE, fun w hw => by cases hw⟩
