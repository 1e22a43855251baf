/-! ===== what the reference read of a plan ===== -/
/-- the reference's i-th step that was read -/
def RS1 (I : jx_I) (m i : Nat) (e : SP) : Prop := (I (m + 1493 + i) 0).toInt = (e.1 : Int) ∧ (I (m + 1493 + i) 1).toInt = e.2.1 ∧ (I (m + 1493 + i) 2).toInt = (e.2.2.1 : Int) ∧ (I (m + 1493 + i) 3).toInt = (e.2.2.2.1 : Int) ∧ (I (m + 1493 + i) 4).toInt = (e.2.2.2.2 : Int)
/-- how many were read; blocks that are open -/
def RPC (I : jx_I) (m o n t v : Nat) : Prop := (I m 57).toInt = (n : Int) ∧ (I m 58).toInt = (t : Int) ∧ (I m 59).toInt = (v : Int) ∧ (I m 25).toInt = (o : Int)
def RPR (I : jx_I) (m n t v : Nat) (r : PS) : Prop := (∀ (i : Nat) (e : SP), r.1[i]? = some e → RS1 I m (n + i) e) ∧ (∀ (i : Nat) (e : TE), r.2.1[i]? = some e → RT1 I m (t + i) e) ∧ ∀ (i : Nat) (e : VA), r.2.2.1[i]? = some e → RV1 I m (v + i) e
/-- what the reference read: steps from n, tests from t, values from v on -/
def RPS (I : jx_I) (m : Nat) (T : List Int) (o n t v : Nat) : PX PS → Prop
  | .ok r => ROK I m T r.2.2.2 ∧ RPC I m o (n + r.1.length) (t + r.2.1.length) (v + r.2.2.1.length) ∧ RPR I m n t v r
  | .error e => RER I m T e
def RLM (I : jx_I) (m ln lm : Nat) : Prop := (I (m + 4) 0).toInt = (ln : Int) ∧ (I (m + 4) 1).toInt = (lm : Int)
abbrev KS : List Nat := [4, 5, 6, 25, 57, 58, 59]
theorem RLM_f {I I' : jx_I} {m ln lm n t v : Nat} {ks : List Nat} (h : RLM I m ln lm) (hf : FP m ks n t v I I') : RLM I' m ln lm := by
  unfold RLM
  rw [hf.1 (m + 4) (by omega) (by omega) (by omega) (by omega)]
  exact h
/-- a row of steps, tests, values below the bounds stays -/
theorem FP_rows {m : Nat} {ks : List Nat} {n t v : Nat} {I I' : jx_I} (hf : FP m ks n t v I I') : (∀ i, i < n → i < 120 → I' (m + 1493 + i) = I (m + 1493 + i)) ∧ (∀ i, i < t → i < 120 → I' (m + 1735 + i) = I (m + 1735 + i)) ∧ ∀ i, i < v → i < 160 → I' (m + 2017 + i) = I (m + 2017 + i) := ⟨fun i h h2 => hf.1 _ (by omega) (by omega) (by omega) (by omega), fun i h h2 => hf.1 _ (by omega) (by omega) (by omega) (by omega), fun i h h2 => hf.1 _ (by omega) (by omega) (by omega) (by omega)⟩
theorem RS1_e {I I' : jx_I} {m i : Nat} {e : SP} (h : RS1 I m i e) (he : I' (m + 1493 + i) = I (m + 1493 + i)) : RS1 I' m i e := by
  unfold RS1; rw [he]; exact h
theorem RT1_e {I I' : jx_I} {m i : Nat} {e : TE} (h : RT1 I m i e) (he : I' (m + 1735 + i) = I (m + 1735 + i)) : RT1 I' m i e := by
  unfold RT1; rw [he]; exact h
theorem RV1_e {I I' : jx_I} {m i : Nat} {e : VA} (h : RV1 I m i e) (he : I' (m + 2017 + i) = I (m + 2017 + i)) : RV1 I' m i e := by
  unfold RV1; rw [he]; exact h
theorem RPR_f {m : Nat} {ks : List Nat} {n t v n2 t2 v2 : Nat} {I I' : jx_I} {r : PS} (h : RPR I m n t v r) (hf : FP m ks n2 t2 v2 I I') (h1 : n + r.1.length ≤ n2 ∧ n2 ≤ 120) (h2 : t + r.2.1.length ≤ t2 ∧ t2 ≤ 120) (h3 : v + r.2.2.1.length ≤ v2 ∧ v2 ≤ 160) : RPR I' m n t v r := by
  obtain ⟨g1, g2, g3⟩ := FP_rows hf
  exact ⟨fun i e he => RS1_e (h.1 i e he) (g1 _ (by have := gi_lt he; omega) (by have := gi_lt he; omega)), fun i e he => RT1_e (h.2.1 i e he) (g2 _ (by have := gi_lt he; omega) (by have := gi_lt he; omega)), fun i e he => RV1_e (h.2.2 i e he) (g3 _ (by have := gi_lt he; omega) (by have := gi_lt he; omega))⟩
theorem RPR_app {m : Nat} {n t v n2 t2 v2 q q2 : Nat} {I : jx_I} {S S2 : List SP} {U U2 : List TE} {W W2 : List VA} (h : RPR I m n t v (S, U, W, q)) (h2 : RPR I m n2 t2 v2 (S2, U2, W2, q2)) (en : n2 = n + S.length) (et : t2 = t + U.length) (ev : v2 = v + W.length) : RPR I m n t v (S ++ S2, U ++ U2, W ++ W2, q2) := by
  subst en; subst et; subst ev
  exact ⟨app_get (P := fun i e => RS1 I m (n + i) e) h.1 (fun i e he => by rw [← Nat.add_assoc]; exact h2.1 i e he), app_get (P := fun i e => RT1 I m (t + i) e) h.2.1 (fun i e he => by rw [← Nat.add_assoc]; exact h2.2.1 i e he), app_get (P := fun i e => RV1 I m (v + i) e) h.2.2 (fun i e he => by rw [← Nat.add_assoc]; exact h2.2.2 i e he)⟩
theorem RPR_nil {m : Nat} {n t v q : Nat} {I : jx_I} : RPR I m n t v ([], [], [], q) := ⟨fun i e h => (by cases h), fun i e h => (by cases h), fun i e h => (by cases h)⟩
theorem RPC_o {m : Nat} {ks : List Nat} {o n t v : Nat} {I I' : jx_I} (h : RPC I m o n t v) (hf : FO m ks I I') (hk : 57 ∉ ks ∧ 58 ∉ ks ∧ 59 ∉ ks ∧ 25 ∉ ks) : RPC I' m o n t v := by
  unfold RPC
  rw [hf.2 57 hk.1, hf.2 58 hk.2.1, hf.2 59 hk.2.2.1, hf.2 25 hk.2.2.2]
  exact h
theorem RPC_w {m : Nat} {o n t v q k : Nat} {x : Int32} {I : jx_I} (h : RPC I m o n t v) (hq : q ≠ m) : RPC (jx_u I q k x) m o n t v := by
  unfold RPC
  rw [jx_u_r _ _ _ (by omega)]
  exact h
/-- behind a step's ; -/
def pSem (T : List Int) (a : PS) : PX PS := (pSgn T 59 a.2.2.2).bind (fun q => .ok (a.1, a.2.1, a.2.2.1, q))
def pStpS (T : List Int) (ln lm : Nat) (rec : PRC) (o p n t v : Nat) : PX PS := (pStep T ln lm rec o p n t v).bind (pSem T)
theorem pSteps_2 {T : List Int} {ln lm f o p n t v : Nat} (he : ¬ pEnd T o p) : pSteps T ln lm (f + 1) o p n t v = (pStpS T ln lm (pSteps T ln lm f) o p n t v).bind (fun a => (pSteps T ln lm f o a.2.2.2 (n + a.1.length) (t + a.2.1.length) (v + a.2.2.1.length)).bind (fun b => .ok (a.1 ++ b.1, a.2.1 ++ b.2.1, a.2.2.1 ++ b.2.2.1, b.2.2.2))) := by
  rw [pSteps_s, if_neg he]
  unfold pStpS
  cases pStep T ln lm (pSteps T ln lm f) o p n t v with
  | error e => rfl
  | ok a =>
    show (if tat T a.2.2.2 = 59 then _ else _) = ((pSgn T 59 a.2.2.2).bind _).bind _
    unfold pSgn
    split
    · rfl
    · rfl
theorem pStpS_ok {T : List Int} {ln lm : Nat} {rec : PRC} (hln : ln ≤ 10) (hlm : lm ≤ 8) (hr : RH T ln lm rec) {o p n t v : Nat} {r : PS} (hp : p ≤ T.length) (h : pStpS T ln lm rec o p n t v = .ok r) : PG T ln lm p n t v 0 r ∧ p + 2 ≤ r.2.2.2 ∧ 1 ≤ r.2.2.2 := by
  obtain ⟨a, ha, h⟩ := px_ok h
  obtain ⟨a1, a2, a3, a4, a5, a6⟩ := pStep_ok hln hlm hr hp ha
  obtain ⟨q, hq, h⟩ := px_ok h
  unfold pSgn at hq
  split at hq
  · rename_i h59
    cases hq
    cases h
    have hl := tat_in h59 (by decide)
    have hs := AT_s (T := T) (p := a.2.2.2 + 1) (by omega)
    have := hs.2
    exact ⟨⟨by show p + 4 * a.1.length + 0 ≤ skB T _; omega, a2, by show p + 2 * a.2.2.1.length ≤ skB T _; omega, hs.1, a5⟩, by show _ ≤ skB T _; omega, by show 1 ≤ skB T _; omega⟩
  · cases hq
/-- steps are being read, R0 in all -/
def BLS (I K : jx_I) (m : Nat) (T : List Int) (ln lm o n t v : Nat) (R0 : PX PS) : Prop := FP m KS n t v I K ∧ ((∃ e, R0 = .error e ∧ RER K m T e) ∨ (∃ (A1 : List SP) (A2 : List TE) (A3 : List VA) (p f : Nat), R0 = (pSteps T ln lm f o p (n + A1.length) (t + A2.length) (v + A3.length)).bind (fun b => .ok (A1 ++ b.1, A2 ++ b.2.1, A3 ++ b.2.2.1, b.2.2.2)) ∧ T.length < f + p ∧ RTX K m T (p : Int) 0 (-1) ∧ AT T p ∧ RPC K m o (n + A1.length) (t + A2.length) (v + A3.length) ∧ RPR K m n t v (A1, A2, A3, 0) ∧ 4 * (n + A1.length) ≤ p ∧ t + A2.length ≤ n + A1.length ∧ 2 * (v + A3.length) ≤ p))
theorem BLS_step {I K K1 K2 : jx_I} {m : Nat} {T : List Int} {ln lm o n t v : Nat} {R0 : PX PS} {A1 : List SP} {A2 : List TE} {A3 : List VA} {p f : Nat} (h200 : T.length ≤ 200) (hln : ln ≤ 10) (hlm : lm ≤ 8) (hF : FP m KS n t v I K) (hE : R0 = (pSteps T ln lm (f + 1) o p (n + A1.length) (t + A2.length) (v + A3.length)).bind (fun b => .ok (A1 ++ b.1, A2 ++ b.2.1, A3 ++ b.2.2.1, b.2.2.2))) (hf : T.length < f + 1 + p) (hp : AT T p) (hR : RPR K m n t v (A1, A2, A3, 0)) (hb : 4 * (n + A1.length) ≤ p ∧ t + A2.length ≤ n + A1.length ∧ 2 * (v + A3.length) ≤ p) (he : ¬ pEnd T o p) (hS : RPS K1 m T o (n + A1.length) (t + A2.length) (v + A3.length) (pStpS T ln lm (pSteps T ln lm f) o p (n + A1.length) (t + A2.length) (v + A3.length))) (hF1 : FP m KS (n + A1.length) (t + A2.length) (v + A3.length) K K1) (hF2 : FO m [4] K1 K2) (hT2 : ∀ r, pStpS T ln lm (pSteps T ln lm f) o p (n + A1.length) (t + A2.length) (v + A3.length) = .ok r → RTX K2 m T (r.2.2.2 : Nat) 0 (-1)) (hE2 : ∀ e, pStpS T ln lm (pSteps T ln lm f) o p (n + A1.length) (t + A2.length) (v + A3.length) = .error e → RER K2 m T e) : BLS I K2 m T ln lm o n t v R0 ∧ ((K2 m 5).toInt ≠ 0 ∨ ((K2 m 5).toInt = 0 ∧ (p : Int) < (K2 m 4).toInt ∧ (K2 m 4).toInt ≤ T.length)) := by
  rw [pSteps_2 he] at hE
  have hp1 := hp.1
  have hF12 : FP m KS (n + A1.length) (t + A2.length) (v + A3.length) K K2 := FP_trans hF1 (FP_o hF2 (by decide))
  have hF02 : FP m KS n t v I K2 := FP_trans hF (FP_mono hF12 (fun _ h => h) (by omega) (by omega) (by omega))
  cases hy : pStpS T ln lm (pSteps T ln lm f) o p (n + A1.length) (t + A2.length) (v + A3.length) with
  | error e =>
    rw [hy] at hE
    have h2 := hE2 e hy
    refine ⟨⟨hF02, Or.inl ⟨e, hE, h2⟩⟩, Or.inl ?_⟩
    obtain ⟨g1, _, q, g2⟩ := h2
    rw [g2.1.2.2.1]
    omega
  | ok r =>
    rw [hy] at hE hS
    have hT := hT2 r hy
    obtain ⟨⟨b1, b2, b3, b4, b5⟩, b6, _⟩ := pStpS_ok hln hlm (RH_s hln hlm f) hp1 hy
    have b41 := b4.1
    refine ⟨⟨hF02, Or.inr ⟨A1 ++ r.1, A2 ++ r.2.1, A3 ++ r.2.2.1, r.2.2.2, f, ?_, by omega, hT, b4, ?_, ?_, ?_⟩⟩, Or.inr ⟨hT.1.2.2.1, ?_⟩⟩
    · rw [hE]
      simp only [List.length_append]
      show ((pSteps T ln lm f o r.2.2.2 _ _ _).bind _).bind _ = _
      rw [Nat.add_assoc n, Nat.add_assoc t, Nat.add_assoc v]
      cases pSteps T ln lm f o r.2.2.2 (n + (A1.length + r.1.length)) (t + (A2.length + r.2.1.length)) (v + (A3.length + r.2.2.1.length)) with
      | error e => rfl
      | ok b => show Except.ok (A1 ++ (r.1 ++ b.1), A2 ++ (r.2.1 ++ b.2.1), A3 ++ (r.2.2.1 ++ b.2.2.1), b.2.2.2) = Except.ok (A1 ++ r.1 ++ b.1, A2 ++ r.2.1 ++ b.2.1, A3 ++ r.2.2.1 ++ b.2.2.1, b.2.2.2); rw [List.append_assoc, List.append_assoc, List.append_assoc]
    · have h3 := RPC_o hS.2.1 hF2 (by decide)
      simp only [List.length_append]
      rw [← Nat.add_assoc n, ← Nat.add_assoc t, ← Nat.add_assoc v]
      exact h3
    · have h4 := RPR_f hR (FP_mono hF12 (fun _ h => h) (Nat.le_refl _) (Nat.le_refl _) (Nat.le_refl _)) ⟨Nat.le_refl _, by omega⟩ ⟨Nat.le_refl _, by omega⟩ ⟨Nat.le_refl _, by omega⟩
      have h5 : RPR K2 m (n + A1.length) (t + A2.length) (v + A3.length) r := ⟨fun i e he => RS1_e (hS.2.2.1 i e he) (hF2.1 _ (by omega)), fun i e he => RT1_e (hS.2.2.2.1 i e he) (hF2.1 _ (by omega)), fun i e he => RV1_e (hS.2.2.2.2 i e he) (hF2.1 _ (by omega))⟩
      exact RPR_app (q := 0) (q2 := 0) h4 h5 rfl rfl rfl
    · simp only [List.length_append]
      omega
    · rw [hT.1.2.1]
      omega
