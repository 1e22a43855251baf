/-! ===== a plan that a text tells is well formed ===== -/
/-- the i-th step is good: tests t .. t', steps up to z -/
def GS (ln lm t t' z i : Nat) (e : SP) : Prop := e.1 ≤ 9 ∧ (0 ≤ e.2.1 ∧ e.2.1 ≤ 99) ∧ (e.1 = 0 → e.2.1 < (ln : Int)) ∧ (4 ≤ e.1 → e.1 ≤ 6 → e.2.1 < (lm : Int)) ∧ (8 ≤ e.1 → t ≤ e.2.2.1 ∧ e.2.2.1 < t') ∧ i + 1 ≤ e.2.2.2.1 ∧ e.2.2.2.1 ≤ e.2.2.2.2 ∧ e.2.2.2.2 ≤ z
/-- steps from n on, tests from t on, values from v on are good -/
def WQ (ln lm n t v : Nat) (S : List SP) (U : List TE) (W : List VA) : Prop := (∀ (i : Nat) (e : SP), S[i]? = some e → GS ln lm t (t + U.length) (n + S.length) (n + i) e) ∧ (∀ e ∈ U, GTE v (v + W.length) e) ∧ ∀ e ∈ W, GV lm e
theorem GS_m {ln lm t1 t1' z1 t2 t2' z2 i : Nat} {e : SP} (h : GS ln lm t1 t1' z1 i e) (h1 : t2 ≤ t1) (h2 : t1' ≤ t2') (h3 : z1 ≤ z2) : GS ln lm t2 t2' z2 i e := ⟨h.1, h.2.1, h.2.2.1, h.2.2.2.1, fun k => ⟨by have := (h.2.2.2.2.1 k).1; omega, by have := (h.2.2.2.2.1 k).2; omega⟩, h.2.2.2.2.2.1, h.2.2.2.2.2.2.1, by have := h.2.2.2.2.2.2.2; omega⟩
theorem GTE_m {v1 w1 v2 w2 : Nat} {e : TE} (h : GTE v1 w1 e) (h1 : v2 ≤ v1) (h2 : w1 ≤ w2) : GTE v2 w2 e := ⟨by have := h.1; omega, h.2.1, h.2.2.1, by have := h.2.2.2.1; omega, h.2.2.2.2⟩
theorem WQ_nil {ln lm n t v : Nat} : WQ ln lm n t v [] [] [] := ⟨fun i e h => (by cases h), fun e h => (by cases h), fun e h => (by cases h)⟩
theorem WQ_app {ln lm n t v n2 t2 v2 : Nat} {S S2 : List SP} {U U2 : List TE} {W W2 : List VA} (h : WQ ln lm n t v S U W) (h2 : WQ ln lm n2 t2 v2 S2 U2 W2) (en : n2 = n + S.length) (et : t2 = t + U.length) (ev : v2 = v + W.length) : WQ ln lm n t v (S ++ S2) (U ++ U2) (W ++ W2) := by
  subst en; subst et; subst ev
  refine ⟨?_, ?_, ?_⟩
  · intro i e he
    rw [List.length_append, List.length_append]
    rcases Nat.lt_or_ge i S.length with c | c
    · rw [List.getElem?_append_left c] at he
      exact GS_m (h.1 i e he) (Nat.le_refl _) (by omega) (by omega)
    · rw [List.getElem?_append_right c] at he
      have h3 := h2.1 _ e he
      rw [show n + S.length + (i - S.length) = n + i by omega] at h3
      exact GS_m h3 (by omega) (by omega) (by omega)
  · intro e he
    rw [List.length_append]
    rcases List.mem_append.mp he with c | c
    · exact GTE_m (h.2.1 e c) (Nat.le_refl _) (by omega)
    · exact GTE_m (h2.2.1 e c) (by omega) (by omega)
  · intro e he
    rcases List.mem_append.mp he with c | c
    · exact h.2.2 e c
    · exact h2.2.2 e c
theorem WQ_one {ln lm n t v : Nat} {S : List SP} {U U2 : List TE} {W W2 : List VA} {e : SP} {n2 t2 v2 : Nat} (h : WQ ln lm n2 t2 v2 S U2 W2) (hU : ∀ x ∈ U, GTE v (v + W.length) x) (hW : ∀ x ∈ W, GV lm x) (he : GS ln lm t (t + U.length + U2.length) (n + 1 + S.length) n e) (en : n2 = n + 1) (et : t2 = t + U.length) (ev : v2 = v + W.length) : WQ ln lm n t v (e :: S) (U ++ U2) (W ++ W2) := by
  subst en; subst et; subst ev
  refine ⟨?_, ?_, ?_⟩
  · intro i x hx
    rw [List.length_append, List.length_cons]
    cases i with
    | zero => cases hx; exact GS_m he (Nat.le_refl _) (by omega) (by omega)
    | succ i =>
      have h3 := h.1 i x hx
      rw [show n + 1 + i = n + (i + 1) by omega] at h3
      exact GS_m h3 (by omega) (by omega) (by omega)
  · intro x hx
    rw [List.length_append]
    rcases List.mem_append.mp hx with c | c
    · exact GTE_m (hU x c) (Nat.le_refl _) (by omega)
    · exact GTE_m (h.2.1 x c) (by omega) (by omega)
  · intro x hx
    rcases List.mem_append.mp hx with c | c
    · exact hW x c
    · exact h.2.2 x c
/-- what is told from p on: y chars more than the steps need -/
def PG (T : List Int) (ln lm p n t v y : Nat) (r : PS) : Prop := p + 4 * r.1.length + y ≤ r.2.2.2 ∧ r.2.1.length ≤ r.1.length ∧ p + 2 * r.2.2.1.length ≤ r.2.2.2 ∧ AT T r.2.2.2 ∧ WQ ln lm n t v r.1 r.2.1 r.2.2.1
def RH (T : List Int) (ln lm : Nat) (rec : PRC) : Prop := ∀ (o p n t v : Nat) (r : PS), p ≤ T.length → rec (o + 1) p n t v = .ok r → PG T ln lm p n t v 1 r
theorem pBlk_ok {T : List Int} {ln lm : Nat} {rec : PRC} (hr : RH T ln lm rec) {o q n t v : Nat} {r : PS} (hq : q ≤ T.length) (h : pBlk T rec o q n t v = .ok r) : PG T ln lm q n t v 2 r ∧ tat T q = 91 ∧ o ≠ 6 ∧ rec (o + 1) (skB T (q + 1)) n t v = .ok r ∧ q < T.length := by
  unfold pBlk at h
  split at h
  · cases h
  rename_i h91
  have h91 : tat T q = 91 := by omega
  have hl := tat_in h91 (by decide)
  split at h
  · cases h
  rename_i h6
  have hs := AT_s (T := T) (p := q + 1) (by omega)
  have h2 := hr _ _ _ _ _ _ hs.1.1 h
  have e1 := h2.1
  have e2 := h2.2.2.1
  have e3 := hs.2
  exact ⟨⟨by omega, h2.2.1, by omega, h2.2.2.2⟩, h91, h6, h, hl⟩
/-- what a step is that is told from p on: y chars fewer than it needs -/
def PG1 (T : List Int) (ln lm p n t v : Nat) (r : PS) : Prop := p + 4 * r.1.length ≤ r.2.2.2 + 1 ∧ r.2.1.length ≤ r.1.length ∧ p + 2 * r.2.2.1.length ≤ r.2.2.2 ∧ AT T r.2.2.2 ∧ WQ ln lm n t v r.1 r.2.1 r.2.2.1 ∧ p + 2 ≤ r.2.2.2
theorem pElse_ok {T : List Int} {ln lm : Nat} {rec : PRC} (hr : RH T ln lm rec) {o p q n t v : Nat} {k : Int} {a : PA} {b r : PS} (hk : 7 ≤ k ∧ k ≤ 9) (hb : PG T ln lm q (n + 1) (t + a.2.1.length) (v + a.2.2.1.length) 2 b) (hq : p + 3 ≤ q) (hq2 : p + 2 + 2 * a.2.2.1.length ≤ q + 1) (h99 : 0 ≤ a.1 ∧ a.1 ≤ 99) (h8 : 8 ≤ k → a.2.1.length = 1) (h7 : k < 8 → a.2.1 = [] ∧ a.2.2.1 = []) (ha : ∀ e ∈ a.2.2.1, GV lm e) (ht : ∀ e ∈ a.2.1, GTE v (v + a.2.2.1.length) e) (h : pElse T rec o n t v k a b = .ok r) : PG1 T ln lm p n t v r := by
  obtain ⟨b1, b2, b3, b4, b5⟩ := hb
  unfold pElse at h
  have hw := wrd_le b4.1
  have hl1 : a.2.1.length ≤ 1 := by
    rcases Int.lt_or_le k 8 with c | c
    · rw [(h7 c).1]; exact Nat.zero_le _
    · rw [h8 c]; exact Nat.le_refl _
  have hhead : ∀ (e1 z U : Nat), n + 1 ≤ e1 → e1 ≤ z → GS ln lm t (t + a.2.1.length + U) z n (k.toNat, a.1, t, e1, z) := fun e1 z U g1 g2 => ⟨by show k.toNat ≤ 9; omega, h99, fun e => (by have : k.toNat = 0 := e; omega), fun _ e => (by have : k.toNat ≤ 6 := e; omega), fun e => ⟨Nat.le_refl _, by have : 8 ≤ k.toNat := e; have := h8 (by omega); show t < _; omega⟩, g1, g2, Nat.le_refl _⟩
  split at h
  · rename_i h9
    split at h
    · obtain ⟨c, hc, h⟩ := px_ok h
      have hs := AT_s hw
      have h2 := (pBlk_ok hr hs.1.1 hc).1
      obtain ⟨c1, c2, c3, c4, c5⟩ := h2
      cases h
      have hs2 := hs.2
      refine ⟨?_, ?_, ?_, c4, ?_, ?_⟩
      · rw [List.length_cons, List.length_append]; show _ ≤ c.2.2.2 + 1; omega
      · rw [List.length_cons, List.length_append, List.length_append, List.length_append]; omega
      · rw [List.length_append, List.length_append]; show _ ≤ c.2.2.2; omega
      · have h3 := WQ_app b5 c5 rfl rfl rfl
        refine WQ_one h3 ht ha ?_ rfl rfl rfl
        exact GS_m (hhead (n + 1 + b.1.length) (n + 1 + b.1.length + c.1.length) (b.2.1.length + c.2.1.length) (by omega) (by omega)) (Nat.le_refl _) (by simp only [List.length_append]; omega) (by simp only [List.length_append]; omega)
      · show _ ≤ c.2.2.2; omega
    · cases h
  · cases h
    refine ⟨?_, ?_, ?_, b4, ?_, ?_⟩
    · rw [List.length_cons]; show _ ≤ b.2.2.2 + 1; omega
    · rw [List.length_cons, List.length_append]; omega
    · rw [List.length_append]; show _ ≤ b.2.2.2; omega
    · exact WQ_one b5 ht ha (hhead _ _ _ (by omega) (Nat.le_refl _)) rfl rfl rfl
    · show _ ≤ b.2.2.2; omega
theorem pStep_ok {T : List Int} {ln lm : Nat} {rec : PRC} (hln : ln ≤ 10) (hlm : lm ≤ 8) (hr : RH T ln lm rec) {o p n t v : Nat} {r : PS} (hp : p ≤ T.length) (h : pStep T ln lm rec o p n t v = .ok r) : PG1 T ln lm p n t v r := by
  unfold pStep at h
  split at h
  · cases h
  rename_i h1
  have hw := wrd_le hp
  have hk := kst_r (wrd T p)
  have hs := AT_s hw
  have hs2 := hs.2
  obtain ⟨k, hke⟩ : ∃ k, k = kst (wrd T p) := ⟨_, rfl⟩
  rw [← hke] at h h1 hk
  unfold pBody at h
  obtain ⟨a, ha, h⟩ := px_ok h
  obtain ⟨a1, a2, a3, a4, a5, a6, a7, a8, a9, a10, a11⟩ := pArgs_ok hln hlm (by omega) hs.1 ha
  split at h
  · rename_i h7
    obtain ⟨g1, g2⟩ := a7 (by omega)
    cases h
    have e4 : p + 3 ≤ a.2.2.2 := by
      by_cases c : k = 2 ∨ k = 3
      · have := hk; omega
      · have := a2 c; omega
    refine ⟨?_, ?_, ?_, a3, ?_, ?_⟩
    · show p + 4 * 1 ≤ a.2.2.2 + 1; omega
    · show a.2.1.length ≤ 1; rw [g1]; exact Nat.zero_le _
    · show p + 2 * a.2.2.1.length ≤ a.2.2.2; rw [g2]; show p + 2 * 0 ≤ _; omega
    · show WQ ln lm n t v _ a.2.1 a.2.2.1
      rw [g1, g2]
      refine WQ_one (U := []) (W := []) WQ_nil (fun x hx => by cases hx) (fun x hx => by cases hx) ⟨by show k.toNat ≤ 9; omega, a4, fun e => ?_, fun e e' => ?_, fun e => ?_, ?_, ?_, ?_⟩ rfl rfl rfl
      · exact a5 (by have : k.toNat = 0 := e; omega)
      · exact a6 (by have : 4 ≤ k.toNat := e; omega) (by have : k.toNat ≤ 6 := e'; omega)
      · have : 8 ≤ k.toNat := e; omega
      · exact Nat.le_refl _
      · exact Nat.le_refl _
      · exact Nat.le_refl _
    · show p + 2 ≤ a.2.2.2; omega
  · obtain ⟨b, hb, h⟩ := px_ok h
    have h3 := (pBlk_ok hr a3.1 hb).1
    have := a2 (by omega)
    exact pElse_ok hr (by omega) h3 (by omega) (by omega) a4 a8 a7 a10 a11 h
theorem pSteps_ok {T : List Int} {ln lm : Nat} (hln : ln ≤ 10) (hlm : lm ≤ 8) : ∀ (f o p n t v : Nat) (r : PS), AT T p ∨ p ≤ T.length ∧ o ≠ 0 → pSteps T ln lm f o p n t v = .ok r → PG T ln lm p n t v (if o = 0 then 0 else 1) r := by
  intro f
  induction f with
  | zero => intro o p n t v r _ h; cases h
  | succ f ih =>
    intro o p n t v r hp h
    have hpl : p ≤ T.length := by rcases hp with h | h; exact h.1; exact h.1
    rw [pSteps_s] at h
    split at h
    · rename_i he
      cases h
      unfold pEnd at he
      refine ⟨?_, Nat.zero_le _, ?_, ?_, WQ_nil⟩
      · split
        · exact Nat.le_refl _
        · rename_i ho
          rw [if_neg ho] at he
          have := tat_in he (by decide)
          have := (AT_s (T := T) (p := p + 1) (by omega)).2
          show p + 4 * 0 + 1 ≤ skB T (p + 1)
          omega
      · split
        · exact Nat.le_refl _
        · rename_i ho
          rw [if_neg ho] at he
          have := tat_in he (by decide)
          have := (AT_s (T := T) (p := p + 1) (by omega)).2
          show p + 2 * 0 ≤ skB T (p + 1)
          omega
      · split
        · rename_i ho
          rcases hp with h | h
          · exact h
          · exact absurd ho h.2
        · rename_i ho
          rw [if_neg ho] at he
          have := tat_in he (by decide)
          exact (AT_s (T := T) (p := p + 1) (by omega)).1
    · obtain ⟨a, ha, h⟩ := px_ok h
      have h1 := pStep_ok hln hlm (fun o2 p2 n2 t2 v2 r2 h2 h3 => ih (o2 + 1) p2 n2 t2 v2 r2 (Or.inr ⟨h2, by omega⟩) h3) hpl ha
      obtain ⟨a1, a2, a3, a4, a5, a6⟩ := h1
      split at h
      · rename_i h59
        have hl := tat_in h59 (by decide)
        have hs := AT_s (T := T) (p := a.2.2.2 + 1) (by omega)
        obtain ⟨b, hb, h⟩ := px_ok h
        obtain ⟨b1, b2, b3, b4, b5⟩ := ih _ _ _ _ _ _ (Or.inl hs.1) hb
        cases h
        have e := hs.2
        refine ⟨?_, ?_, ?_, b4, WQ_app a5 b5 rfl rfl rfl⟩
        · rw [List.length_append]; show _ ≤ b.2.2.2; omega
        · rw [List.length_append, List.length_append]; omega
        · rw [List.length_append]; show _ ≤ b.2.2.2; omega
      · cases h
theorem RH_s {T : List Int} {ln lm : Nat} (hln : ln ≤ 10) (hlm : lm ≤ 8) (f : Nat) : RH T ln lm (pSteps T ln lm f) := fun o p n t v r h2 h3 => by
  have := pSteps_ok hln hlm f (o + 1) p n t v r (Or.inr ⟨h2, by omega⟩) h3
  rw [if_neg (by omega)] at this
  exact this
