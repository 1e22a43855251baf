/-! ===== the class reads a test ===== -/
/-- a Plan holds the values W from v on, their signs times sg -/
def CVR (I : jx_I) (y v : Nat) (sg : Int) (W : List VA) : Prop := ∀ (i : Nat) (e : VA), W[i]? = some e → CV1 I y (v + i) (sg * e.1) e
/-- values read in part: s0 the next's sign, 0 behind the last -/
def CVt (K : jx_I) (y tp : Nat) (T : List Int) (fd : Int) (lm v s : Nat) (sg s0 : Int) : Prop := (s0 = 0 ∧ ∃ r, pVals T lm (T.length + 1) s 1 = .ok r ∧ CST K tp T fd (.ok r.2) ∧ CVR K y v sg r.1 ∧ (K y 12).toInt = ((v + r.1.length : Nat) : Int) ∧ 2 * (v + r.1.length) ≤ r.2 + 1) ∨ ((s0 = 1 ∨ s0 = -1) ∧ ∃ (f : Nat) (W : List VA) (s1 : Nat), pVals T lm (T.length + 1) s 1 = (pVals T lm f s1 s0).bind (fun z => .ok (W ++ z.1, z.2)) ∧ T.length < f + s1 ∧ CST K tp T fd (.ok s1) ∧ (K y 12).toInt = ((v + W.length : Nat) : Int) ∧ 2 * (v + W.length) ≤ s1 ∧ CVR K y v sg W)
/-- of a Plan at y only row n of tests, and values from v on change -/
def FTS (y tp n v : Nat) (I I' : jx_I) : Prop := FPz y tp n v I I' ∧ (∀ j i, 1 ≤ j → j ≤ 5 → i < 100 → I' (y + j) i = I (y + j) i) ∧ I' y 11 = I y 11
theorem FTS_trans {y tp n v : Nat} {I I1 I2 : jx_I} (h : FTS y tp n v I I1) (h2 : FTS y tp n v I1 I2) : FTS y tp n v I I2 := ⟨FPz_trans h.1 h2.1, fun j i a b c => (h2.2.1 j i a b c).trans (h.2.1 j i a b c), h2.2.2.trans h.2.2⟩
theorem FTS_t {y tp n v : Nat} {I I' : jx_I} (h : FR tp (tp + 1) I I') (hd : tp + 2 ≤ y ∨ y + 12 ≤ tp) : FTS y tp n v I I' := ⟨FPz_t h (by omega), fun j i a b c => by rw [h (y + j) (by omega)], by rw [h y (by omega)]⟩
theorem FTS_z {y tp n v v1 : Nat} {I I' : jx_I} (h : FPz y tp 100 v1 I I') (h11 : I' y 11 = I y 11) (hn : n ≤ 100) (hv : v ≤ v1) : FTS y tp n v I I' := ⟨FPz_mono h hn hv, fun j i a b c => h.2.1 j i a (by omega) c, h11⟩
theorem FTS_r {y tp n v j : Nat} {x : Int32} {I I' : jx_I} (h : FTS y tp n v I I') (hj : 6 ≤ j ∧ j ≤ 8) : FTS y tp n v I (jx_u I' (y + j) n x) := ⟨FPz_s h.1 (by omega) (Nat.le_refl _), fun j2 i a b c => by rw [jx_u_r _ _ _ (by omega)]; exact h.2.1 j2 i a b c, by rw [jx_u_r _ _ _ (by omega)]; exact h.2.2⟩
/-- a test being read: l4 its side -/
def TST (I K : jx_I) (y tp : Nat) (T : List Int) (fd : Int) (lm n v s : Nat) (l4 s0 : Int) : Prop := FTS y tp n v I K ∧ (K (y + 6) n).toInt = (v : Int) ∧ ((l4 = 1 ∧ (K (y + 8) n).toInt = -1 ∧ CVt K y tp T fd lm v s 1 s0) ∨ (l4 = -1 ∧ ∃ a, pVals T lm (T.length + 1) s 1 = .ok a ∧ prl (tat T a.2) ≠ 3 ∧ (K (y + 8) n).toInt = (prl (tat T a.2) : Int) ∧ CVR K y v 1 a.1 ∧ CVt K y tp T fd lm (v + a.1.length) (skB T (a.2 + 1)) (-1) s0))
theorem CV1_f {y tp n v i : Nat} {I I' : jx_I} {sg : Int} {e : VA} (h : CV1 I y i sg e) (hf : FPz y tp n v I I') (hi : i < v) : CV1 I' y i sg e := by
  unfold CV1
  rw [hf.2.2 9 i (by omega) (by omega) hi, hf.2.2 10 i (by omega) (by omega) hi, hf.2.2 11 i (by omega) (by omega) hi]
  exact h
theorem CVR_f {y tp n v v1 : Nat} {I I' : jx_I} {sg : Int} {W : List VA} (h : CVR I y v sg W) (hf : FPz y tp n v1 I I') (hi : v + W.length ≤ v1) : CVR I' y v sg W := fun i e he => CV1_f (h i e he) hf (by have := gi_lt he; omega)
/-- a value more -/
theorem CVt_step {K K1 K2 : jx_I} {y tp : Nat} {T : List Int} {fd : Int} {lm v s f s1 k q : Nat} {x : Int} {W : List VA} {sg s0 s2 : Int} (hlm : lm ≤ 8) (hE : pVals T lm (T.length + 1) s 1 = (pVals T lm f s1 s0).bind (fun z => .ok (W ++ z.1, z.2))) (hf : T.length < f + s1) (hs1 : s1 ≤ T.length) (hv : 2 * (v + W.length) ≤ s1) (hW : CVR K y v sg W) (hF1 : FPz y tp 100 (v + W.length) K K1) (hy : pVal T lm s1 = .ok (k, x, q)) (hC : CV1 K1 y (v + W.length) (sg * s0) (s0, k, x)) (h12 : (K1 y 12).toInt = ((v + W.length : Nat) : Int) + 1) (hF2 : FR tp (tp + 1) K1 K2) (hd : tp + 2 ≤ y ∨ y + 12 ≤ tp) (hc : (s2 = 0 ∧ tat T q ≠ 43 ∧ tat T q ≠ 45 ∧ CST K2 tp T fd (.ok q)) ∨ (((tat T q = 43 ∧ s2 = 1) ∨ (tat T q = 45 ∧ s2 = -1)) ∧ CST K2 tp T fd (.ok (skB T (q + 1))))) : CVt K2 y tp T fd lm v s sg s2 := by
  obtain ⟨f, rfl⟩ : ∃ g, f = g + 1 := ⟨f - 1, by omega⟩
  have h5 := pVal_ok hlm hs1 hy
  have h6 : s1 + 1 ≤ q := h5.1
  have hW2 : CVR K2 y v sg (W ++ [(s0, k, x)]) := by
    intro i e he
    have hF2z : FPz y tp 100 (v + W.length + 1) K1 K2 := FPz_t hF2 (by omega)
    rcases Nat.lt_or_ge i W.length with c | c
    · rw [List.getElem?_append_left c] at he
      exact CV1_f (CV1_f (hW i e he) hF1 (by omega)) hF2z (by omega)
    · rw [List.getElem?_append_right c] at he
      obtain ⟨j, hj⟩ : ∃ j, i - W.length = j := ⟨_, rfl⟩
      rw [hj] at he
      cases j with
      | zero =>
        cases he
        rw [show v + i = v + W.length by omega]
        exact CV1_f hC hF2z (by omega)
      | succ j => cases he
  have hlen : (K2 y 12).toInt = ((v + (W ++ [(s0, k, x)]).length : Nat) : Int) := by
    rw [hF2 y (by omega), h12, List.length_append]
    show _ = ((v + (W.length + 1) : Nat) : Int)
    omega
  have hl1 : (W ++ [(s0, k, x)]).length = W.length + 1 := by rw [List.length_append]; rfl
  rcases hc with ⟨h0, hn3, hn5, hst⟩ | ⟨hcc, hok⟩
  · refine Or.inl ⟨h0, (W ++ [(s0, k, x)], q), ?_, hst, hW2, hlen, ?_⟩
    · rw [hE, pVals_0 hy hn3 hn5]; rfl
    · show 2 * (v + (W ++ [(s0, k, x)]).length) ≤ q + 1
      omega
  · have hql : q + 1 ≤ T.length := by
      have : q < T.length := by
        rcases hcc with h | h
        · exact tat_in h.1 (by decide)
        · exact tat_in h.1 (by decide)
      omega
    have h7 := (skB_le hql).1
    have hgo : ∀ c : Int, (c = 1 ∨ c = -1) → pVals T lm (f + 1) s1 s0 = (pVals T lm f (skB T (q + 1)) c).bind (fun z => .ok ((s0, k, x) :: z.1, z.2)) → CVt K2 y tp T fd lm v s sg c := by
      intro c hc1 hp
      refine Or.inr ⟨hc1, f, W ++ [(s0, k, x)], skB T (q + 1), ?_, by omega, hok, hlen, by omega, hW2⟩
      rw [hE, hp]
      cases pVals T lm f (skB T (q + 1)) c with
      | error e => rfl
      | ok z => show Except.ok (W ++ (s0, k, x) :: z.1, z.2) = Except.ok (W ++ [(s0, k, x)] ++ z.1, z.2); rw [List.append_assoc]; rfl
    rcases hcc with ⟨h43, rfl⟩ | ⟨h45, rfl⟩
    · exact hgo 1 (Or.inl rfl) (pVals_p hy h43)
    · exact hgo (-1) (Or.inr rfl) (pVals_m hy h45)
/-- what stands where the next value begins -/
theorem TST_x {I K : jx_I} {y tp : Nat} {T : List Int} {fd : Int} {lm n v s : Nat} {l4 s0 : Int} (hlm : lm ≤ 8) (h : TST I K y tp T fd lm n v s l4 s0) (h0 : s0 ≠ 0) (hn : n < 100) (hd : tp + 2 ≤ y ∨ y + 12 ≤ tp) : ∃ s1 v1 : Nat, CST K tp T fd (.ok s1) ∧ (K y 12).toInt = (v1 : Int) ∧ 2 * v1 ≤ s1 ∧ v ≤ v1 ∧ (l4 = 1 ∨ l4 = -1) ∧ (s0 = 1 ∨ s0 = -1) ∧ (∀ e, pVal T lm s1 = .error e → pTest T lm s v = .error e) ∧ ∀ (K1 K2 : jx_I) (k q : Nat) (x s2 : Int), pVal T lm s1 = .ok (k, x, q) → FPz y tp 100 v1 K K1 → K1 y 11 = K y 11 → CV1 K1 y v1 (l4 * s0) (s0, k, x) → (K1 y 12).toInt = (v1 : Int) + 1 → FR tp (tp + 1) K1 K2 → ((s2 = 0 ∧ tat T q ≠ 43 ∧ tat T q ≠ 45 ∧ CST K2 tp T fd (.ok q)) ∨ (((tat T q = 43 ∧ s2 = 1) ∨ (tat T q = 45 ∧ s2 = -1)) ∧ CST K2 tp T fd (.ok (skB T (q + 1))))) → TST I K2 y tp T fd lm n v s l4 s2 := by
  obtain ⟨hF, h6, hh⟩ := h
  have hrow : ∀ (K1 K2 : jx_I) (v1 : Nat), FPz y tp 100 v1 K K1 → FR tp (tp + 1) K1 K2 → ∀ j, 6 ≤ j → j ≤ 8 → K2 (y + j) n = K (y + j) n := fun K1 K2 v1 g1 g2 j a b => by rw [g2 (y + j) (by omega)]; exact g1.2.1 j n (by omega) b hn
  rcases hh with ⟨e4, h8, hc⟩ | ⟨e4, a, ha, ha3, h8, haW, hc⟩
  · obtain ⟨hs0, f, W, s1, hE, hf, hs1, h12, h2, hW⟩ := hc.resolve_left (fun k => h0 k.1)
    refine ⟨s1, v + W.length, hs1, h12, h2, by omega, Or.inl e4, hs0, fun e he => ?_, fun K1 K2 k q x s2 g1 g2 g3 g4 g5 g6 g7 => ?_⟩
    · obtain ⟨f, rfl⟩ : ∃ g, f = g + 1 := ⟨f - 1, by have := hs1.1.1; omega⟩
      rw [pVals_e he] at hE
      exact pTest_e hE
    · refine ⟨FTS_trans hF (FTS_trans (FTS_z g2 g3 (by omega) (by omega)) (FTS_t g6 hd)), by rw [hrow K1 K2 _ g2 g6 6 (by omega) (by omega)]; exact h6, Or.inl ⟨e4, by rw [hrow K1 K2 _ g2 g6 8 (by omega) (by omega)]; exact h8, ?_⟩⟩
      rw [e4] at g4
      exact CVt_step hlm hE hf hs1.1.1 h2 hW g2 g1 g4 g5 g6 hd g7
  · obtain ⟨hs0, f, W, s1, hE, hf, hs1, h12, h2, hW⟩ := hc.resolve_left (fun k => h0 k.1)
    refine ⟨s1, v + a.1.length + W.length, hs1, h12, h2, by omega, Or.inr e4, hs0, fun e he => ?_, fun K1 K2 k q x s2 g1 g2 g3 g4 g5 g6 g7 => ?_⟩
    · obtain ⟨f, rfl⟩ : ∃ g, f = g + 1 := ⟨f - 1, by have := hs1.1.1; omega⟩
      rw [pVals_e he] at hE
      rw [pTest_b ha ha3, hE]
      rfl
    · refine ⟨FTS_trans hF (FTS_trans (FTS_z g2 g3 (by omega) (by omega)) (FTS_t g6 hd)), by rw [hrow K1 K2 _ g2 g6 6 (by omega) (by omega)]; exact h6, Or.inr ⟨e4, a, ha, ha3, by rw [hrow K1 K2 _ g2 g6 8 (by omega) (by omega)]; exact h8, CVR_f (CVR_f haW g2 (by omega)) (FPz_t (n := 100) (v := v + a.1.length) g6 (by omega)) (Nat.le_refl _), ?_⟩⟩
      rw [e4] at g4
      exact CVt_step hlm hE hf hs1.1.1 h2 hW g2 g1 g4 g5 g6 hd g7
/-- a Plan's row i holds the test te with the values W from v on -/
def CT1 (I : jx_I) (y i v : Nat) (te : TE) (W : List VA) : Prop := (I (y + 6) i).toInt = (te.1 : Int) ∧ (I (y + 7) i).toInt = (te.2.2.2 : Int) ∧ (I (y + 8) i).toInt = (te.2.1 : Int) ∧ ∀ (j : Nat) (w : VA), te.1 ≤ v + j → v + j < te.2.2.2 → W[j]? = some w → (I (y + 11) (v + j)).toInt = if v + j < te.2.2.1 then w.1 else -w.1
def CVW (I : jx_I) (y v : Nat) (W : List VA) : Prop := ∀ (i : Nat) (w : VA), W[i]? = some w → (I (y + 9) (v + i)).toInt = (w.2.1 : Int) ∧ (I (y + 10) (v + i)).toInt = w.2.2
/-- a test is read -/
theorem TST_end {I K : jx_I} {y tp : Nat} {T : List Int} {fd : Int} {lm n v s : Nat} {w : Int} (h : TST I K y tp T fd lm n v s (-1) 0) (hw : w = (K y 12).toInt) (hd : tp + 2 ≤ y ∨ y + 12 ≤ tp) : ∃ z, pTest T lm s v = .ok z ∧ CST (jx_u K (y + 7) n (Int32.ofInt w)) tp T fd (.ok z.2.2) ∧ CT1 (jx_u K (y + 7) n (Int32.ofInt w)) y n v z.1 z.2.1 ∧ CVW (jx_u K (y + 7) n (Int32.ofInt w)) y v z.2.1 ∧ (jx_u K (y + 7) n (Int32.ofInt w) y 12).toInt = ((v + z.2.1.length : Nat) : Int) := by
  subst hw
  obtain ⟨hF, h6, hh⟩ := h
  rcases hh with ⟨e4, _⟩ | ⟨_, a, ha, ha3, h8, haW, hc⟩
  · exact absurd e4 (by decide)
  obtain ⟨_, b, hb, hst, hbW, h12, h2⟩ := hc.resolve_right (fun k => by rcases k.1 with h | h <;> exact absurd h (by decide))
  have hCV : ∀ (i : Nat) (w : VA), (a.1 ++ b.1)[i]? = some w → CV1 K y (v + i) (if v + i < v + a.1.length then w.1 else -w.1) w := by
    intro i w hi
    rcases Nat.lt_or_ge i a.1.length with c | c
    · rw [List.getElem?_append_left c] at hi
      rw [if_pos (by omega)]
      have := haW i w hi
      rw [Int.one_mul] at this
      exact this
    · rw [List.getElem?_append_right c] at hi
      rw [if_neg (by omega)]
      have := hbW _ w hi
      rw [Int.neg_one_mul, show v + a.1.length + (i - a.1.length) = v + i by omega] at this
      exact this
  refine ⟨_, by rw [pTest_b ha ha3, hb]; rfl, CST_w hst (by omega), ⟨?_, ?_, ?_, ?_⟩, ?_, ?_⟩
  · rw [jx_u_r _ _ _ (by omega)]; exact h6
  · rw [jx_u_s, jy_toInt (jy_rng _)]; exact h12
  · rw [jx_u_r _ _ _ (by omega)]; exact h8
  · intro j w _ _ hj
    rw [jx_u_r _ _ _ (by omega)]
    exact (hCV j w hj).2.2
  · intro j w hj
    rw [jx_u_r _ _ _ (by omega), jx_u_r _ _ _ (by omega)]
    exact ⟨(hCV j w hj).1, (hCV j w hj).2.1⟩
  · rw [jx_u_r _ _ _ (by omega), h12]
    show _ = ((v + (a.1 ++ b.1).length : Nat) : Int)
    rw [List.length_append, Nat.add_assoc]
/-- the relation is read -/
theorem TST_rel {I K K2 : jx_I} {y tp : Nat} {T : List Int} {fd : Int} {lm n v s : Nat} {l4 w : Int} {a : List VA × Nat} (h : TST I K y tp T fd lm n v s l4 0) (h4 : l4 = 1) (hlm : lm ≤ 8) (hs : s ≤ T.length) (hsv : 2 * v ≤ s) (ha : pVals T lm (T.length + 1) s 1 = .ok a) (ha3 : prl (tat T a.2) ≠ 3) (hw : w = (prl (tat T a.2) : Int)) (hF2 : FR tp (tp + 1) K K2) (hC : CST K2 tp T fd (.ok (skB T (a.2 + 1)))) (hd : tp + 2 ≤ y ∨ y + 12 ≤ tp) : TST I (jx_u K2 (y + 8) n (Int32.ofInt w)) y tp T fd lm n v s (-1) 1 := by
  subst hw
  obtain ⟨hF, h6, hh⟩ := h
  rcases hh with ⟨_, _, hc⟩ | ⟨e4, _⟩
  · obtain ⟨_, a', ha', hst, haW, h12, h2⟩ := hc.resolve_right (fun k => by rcases k.1 with h | h <;> exact absurd h (by decide))
    rw [ha] at ha'
    cases ha'
    have hpr := (prl_r (tat T a.2)).1
    have hl := tat_in rfl ((prl_r (tat T a.2)).2 ha3)
    have hsk := (skB_le (T := T) (i := a.2 + 1) (by omega)).1
    have hpv := pVals_ok hlm _ _ _ _ hs (Or.inl rfl) ha
    have hpv1 := hpv.2.2.1
    have hW2 : CVR (jx_u K2 (y + 8) n (Int32.ofInt (prl (tat T a.2) : Int))) y v 1 a.1 := CVR_f (tp := tp) (n := 0) (CVR_f (n := 0) haW (FPz_t (v := v + a.1.length) hF2 (by omega)) (Nat.le_refl _)) (FPz_s (v := v + a.1.length) FPz_refl (by omega) (Nat.zero_le _)) (Nat.le_refl _)
    refine ⟨FTS_r (FTS_trans hF (FTS_t hF2 hd)) (by omega), ?_, Or.inr ⟨rfl, a, ha, ha3, ?_, hW2, Or.inr ⟨Or.inl rfl, T.length + 1, [], skB T (a.2 + 1), ?_, by omega, CST_w hC (by omega), ?_, ?_, fun i e h => by cases h⟩⟩⟩
    · rw [jx_u_r _ _ _ (by omega), hF2 (y + 6) (by omega)]; exact h6
    · rw [jx_u_s]; exact jy_toInt (by omega)
    · cases pVals T lm (T.length + 1) (skB T (a.2 + 1)) 1 with
      | error e => rfl
      | ok b => rfl
    · rw [jx_u_r _ _ _ (by omega), hF2 y (by omega)]; exact h12
    · show 2 * (v + a.1.length + 0) ≤ _
      omega
  · omega
