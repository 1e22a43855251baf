/-! ===== the class reads steps ===== -/
theorem G56_e {V : jx_V} {X : jx_X} {R : jx_R} {y tp ld : Nat} {T : List Int} {fd : Int} {ln lm o : Nat} (h : G56 V X R y tp ld T fd ln lm o) {d f n t v s : Nat} {a3 : Int} {I : jx_I} {QE : String → jx_I → Prop} (h3 : a3 = (o : Int)) (h1 : CPre I y tp ld T fd ln lm n v s) (hb : 4 * n ≤ s ∧ t ≤ n ∧ 2 * v ≤ s) (hf : T.length < f + s) (hd : 11 + 4 * (6 - o) ≤ d) : jc V d 56 (0, 0) [.ref y, .ref tp, .ref ld, jy a3] X I R (CAns y tp T fd n t v I (pSteps T ln lm f o s n t v) (fun I' z => NBB I' y n o z)) QE := by
  subst h3
  exact h d f n t v s I QE h1 hb hf hd
theorem G57_e {V : jx_V} {X : jx_X} {R : jx_R} {y tp ld : Nat} {T : List Int} {fd : Int} {ln lm o : Nat} (h : G57 V X R y tp ld T fd ln lm o) {d f n t v s : Nat} {a3 : Int} {I : jx_I} {QE : String → jx_I → Prop} (h3 : a3 = (o : Int)) (h1 : CPre I y tp ld T fd ln lm n v s) (hb : 4 * n ≤ s ∧ t ≤ n ∧ 2 * v ≤ s) (hf : T.length ≤ f + s) (hd : 10 + 4 * (6 - o) ≤ d) : jc V d 57 (0, 0) [.ref y, .ref tp, .ref ld, jy a3] X I R (CAns y tp T fd n t v I (pStep T ln lm (pSteps T ln lm f) o s n t v) (fun I' z => NBH I' y n o z)) QE := by
  subst h3
  exact h d f n t v s I QE h1 hb hf hd
theorem G60_e {V : jx_V} {X : jx_X} {R : jx_R} {y tp ld : Nat} {T : List Int} {fd : Int} {ln lm o : Nat} (h : G60 V X R y tp ld T fd ln lm o) {d f n t v s : Nat} {a3 : Int} {I : jx_I} {QE : String → jx_I → Prop} (h3 : a3 = (o : Int)) (h1 : CPre I y tp ld T fd ln lm n v s) (hb : 4 * n ≤ s + 1 ∧ t ≤ n ∧ 2 * v ≤ s) (hf : T.length ≤ f + s) (hd : 8 + 4 * (6 - o) ≤ d) : jc V d 60 (0, 0) [.ref y, .ref tp, .ref ld, jy a3] X I R (CAns y tp T fd n t v I (pBlk T (pSteps T ln lm f) o s n t v) (fun I' z => NBB I' y n (o + 1) z)) QE := by
  subst h3
  exact h d f n t v s I QE h1 hb hf hd
/-- the last step of a chain waits for the next -/
def CHN (K : jx_I) (y n o : Nat) (A : List SP) (bef : Int) : Prop := (bef = -1 ∧ A = []) ∨ ∃ b0 : Nat, bef = (b0 : Int) ∧ n ≤ b0 ∧ b0 < n + A.length ∧ nxt K y b0 = -1 ∧ ∀ (nx' : Nat → Int) (g' : Nat → Option SP) (b' : Nat), n + A.length ≤ b' → (∀ k, n ≤ k → k < n + A.length → k ≠ b0 → nx' k = nxt K y k) → nx' b0 = (if n + A.length < b' then ((n + A.length : Nat) : Int) else -1) → (∀ k, n ≤ k → k < n + A.length → g' k = glk n A k) → (∀ F, b' ≤ F + (n + A.length) → NBf nx' g' F o (n + A.length) b') → ∀ F, b' ≤ F + n → NBf nx' g' F o n b'
theorem CHN_end {K : jx_I} {y n o : Nat} {A : List SP} {bef : Int} (h : CHN K y n o A bef) : ∀ F, A.length ≤ F → NBf (nxt K y) (glk n A) F o n (n + A.length) := by
  intro F hF
  rcases h with ⟨_, rfl⟩ | ⟨b0, h1, h2, h3, h4, h5⟩
  · exact NBf_0 (Nat.le_refl _)
  · exact h5 _ _ _ (Nat.le_refl _) (fun k _ _ _ => rfl) (by rw [if_neg (Nat.lt_irrefl _)]; exact h4) (fun k _ _ => rfl) (fun F _ => NBf_0 (Nat.le_refl _)) F (by omega)
theorem CHN_step {K K3 : jx_I} {y n o n1 : Nat} {A : List SP} {bef : Int} {z : PS} (h : CHN K y n o A bef) (ho : o ≤ 6) (hn1 : n1 = n + A.length) (hB : NBH K3 y n1 o z) (hold : ∀ k, k < n1 → (k : Int) ≠ bef → nxt K3 y k = nxt K y k) (hw : ∀ b0 : Nat, bef = (b0 : Int) → nxt K3 y b0 = (n1 : Int)) : CHN K3 y n o (A ++ z.1) (n1 : Int) := by
  subst hn1
  obtain ⟨hm, e, B, hz, g1, g2, g3, g4⟩ := hB
  have hzl : z.1.length = B.length + 1 := by rw [hz, List.length_cons]
  have hal : (A ++ z.1).length = A.length + z.1.length := List.length_append
  refine Or.inr ⟨n + A.length, rfl, by omega, by omega, hm, ?_⟩
  rw [hal]
  intro nx' g' b' hb hnx hn0 hg hN
  have hfirst : ∀ F, b' ≤ F + (n + A.length) → NBf nx' g' F o (n + A.length) b' := by
    intro F hF
    obtain ⟨F, rfl⟩ : ∃ x, F = x + 1 := ⟨F - 1, by omega⟩
    intro _
    have hsub : ∀ k, n + A.length < k → k < n + (A.length + z.1.length) → nx' k = nxt K3 y k ∧ g' k = glk (n + A.length) z.1 k := fun k a b => ⟨hnx k (by omega) b (by omega), by rw [hg k (by omega) b]; exact glk_r (by omega) rfl⟩
    refine ⟨ho, e, ?_, ⟨g1, g2, by omega⟩, ?_, ?_, fun h7 => ?_, fun h9 => ?_⟩
    · rw [hg _ (by omega) (by omega), glk_r (Nat.le_refl _) rfl]
      unfold glk
      rw [if_pos (Nat.le_refl _), Nat.sub_self, hz]
      rfl
    · rw [hn0, g3, Nat.add_assoc]
    · rw [g3, Nat.add_assoc]; exact hN F (by omega)
    · exact NBf_c _ _ _ _ ((g4 F (by omega)).1 h7) (fun k a b => hsub k (by omega) (by omega))
    · exact NBf_c _ _ _ _ ((g4 F (by omega)).2 h9) (fun k a b => hsub k (by omega) (by omega))
  rcases h with ⟨_, rfl⟩ | ⟨b0, h1, h2, h3, h4, h5⟩
  · exact hfirst
  · refine h5 nx' g' b' (by omega) (fun k a b c => ?_) ?_ (fun k a b => ?_) hfirst
    · rw [hnx k a (by omega) (by omega)]; exact hold k b (by omega)
    · rw [hnx b0 h2 (by omega) (by omega), hw b0 h1, if_pos (by omega)]
    · rw [hg k a (by omega)]; exact glk_l b
/-- the class is reading steps -/
def CBL (I K : jx_I) (y tp ld : Nat) (T : List Int) (fd : Int) (ln lm o n t v : Nat) (R0 : PX PS) (l4 l5 : Int) : Prop := FPz y tp n v I K ∧ ∃ (A1 : List SP) (A2 : List TE) (A3 : List VA) (p f : Nat), R0 = (pSteps T ln lm f o p (n + A1.length) (t + A2.length) (v + A3.length)).bind (fun b => .ok (A1 ++ b.1, A2 ++ b.2.1, A3 ++ b.2.2.1, b.2.2.2)) ∧ T.length < f + p ∧ CPre K y tp ld T fd ln lm (n + A1.length) (v + A3.length) p ∧ CPR K y n t v (A1, A2, A3, 0) ∧ WQ ln lm n t v A1 A2 A3 ∧ (4 * (n + A1.length) ≤ p ∧ t + A2.length ≤ n + A1.length ∧ 2 * (v + A3.length) ≤ p) ∧ (0 ≤ l5 ∧ l5 ≤ A1.length) ∧ CHN K y n o A1 l4
theorem pSteps_3 {T : List Int} {ln lm f o p n t v : Nat} {z : PS} (he : ¬ pEnd T o p) (hz : pStep T ln lm (pSteps T ln lm f) o p n t v = .ok z) (h : tat T z.2.2.2 = 59) : pSteps T ln lm (f + 1) o p n t v = (pSteps T ln lm f o (skB T (z.2.2.2 + 1)) (n + z.1.length) (t + z.2.1.length) (v + z.2.2.1.length)).bind (fun b => .ok (z.1 ++ b.1, z.2.1 ++ b.2.1, z.2.2.1 ++ b.2.2.1, b.2.2.2)) := by rw [pSteps_s, if_neg he, px_o hz, if_pos h]
theorem pSteps_4 {T : List Int} {ln lm f o p n t v : Nat} {z : PS} (he : ¬ pEnd T o p) (hz : pStep T ln lm (pSteps T ln lm f) o p n t v = .ok z) (h : tat T z.2.2.2 ≠ 59) : pSteps T ln lm (f + 1) o p n t v = .error (1, z.2.2.2) := by rw [pSteps_s, if_neg he, px_o hz, if_neg h]
theorem pSteps_5 {T : List Int} {ln lm f o p n t v : Nat} {e : Int × Nat} (he : ¬ pEnd T o p) (hz : pStep T ln lm (pSteps T ln lm f) o p n t v = .error e) : pSteps T ln lm (f + 1) o p n t v = .error e := by rw [pSteps_s, if_neg he, px_e hz]
theorem CBL_step {I K K1 K2 K3 : jx_I} {y tp ld : Nat} {T : List Int} {fd : Int} {ln lm o n t v p f : Nat} {R0 : PX PS} {l4 l5 n1 : Int} {A1 : List SP} {A2 : List TE} {A3 : List VA} {z : PS} (hln : ln ≤ 10) (hlm : lm ≤ 8) (ho : o ≤ 6) (h200 : T.length ≤ 200) (hd : tp + 2 ≤ y ∨ y + 12 ≤ tp) (hla : ld ≠ tp ∧ (ld < y ∨ y + 12 ≤ ld)) (hF : FPz y tp n v I K) (hE : R0 = (pSteps T ln lm (f + 1) o p (n + A1.length) (t + A2.length) (v + A3.length)).bind (fun b => .ok (A1 ++ b.1, A2 ++ b.2.1, A3 ++ b.2.2.1, b.2.2.2))) (hf : T.length < f + 1 + p) (hP : CPre K y tp ld T fd ln lm (n + A1.length) (v + A3.length) p) (hR : CPR K y n t v (A1, A2, A3, 0)) (hW : WQ ln lm n t v A1 A2 A3) (hb : 4 * (n + A1.length) ≤ p ∧ t + A2.length ≤ n + A1.length ∧ 2 * (v + A3.length) ≤ p) (hl5 : 0 ≤ l5 ∧ l5 ≤ A1.length) (hC : CHN K y n o A1 l4) (he : ¬ pEnd T o p) (hz : pStep T ln lm (pSteps T ln lm f) o p (n + A1.length) (t + A2.length) (v + A3.length) = .ok z) (hO : CPO K1 y tp T fd (n + A1.length) (t + A2.length) (v + A3.length) z) (hN : NBH K1 y (n + A1.length) o z) (hF1 : FPz y tp (n + A1.length) (v + A3.length) K K1) (h59 : tat T z.2.2.2 = 59) (hF2 : FR tp (tp + 1) K1 K2) (hC2 : CST K2 tp T fd (.ok (skB T (z.2.2.2 + 1)))) (hn1 : n1 = ((n + A1.length : Nat) : Int)) (h3 : (l4 < 0 ∧ K3 = K2) ∨ (0 ≤ l4 ∧ K3 = jx_u K2 (y + 3) l4.toNat (Int32.ofInt n1))) : CBL I K3 y tp ld T fd ln lm o n t v R0 n1 (l5 + 1) := by
  subst hn1
  rw [pSteps_3 he hz h59] at hE
  obtain ⟨hc, h11, h12, hL⟩ := hP
  have hp := hc.1.1
  obtain ⟨a1, a2, a3, a4, a5, a6⟩ := pStep_ok hln hlm (RH_s hln hlm f) hp hz
  have hl := tat_in h59 (by decide)
  have hsk := (AT_s (T := T) (p := z.2.2.2 + 1) (by omega)).2
  have hz1 : 1 ≤ z.1.length := by
    obtain ⟨_, e, B, g, _⟩ := hN
    rw [g, List.length_cons]
    omega
  have hl4 : ∀ b0 : Nat, l4 = (b0 : Int) → n ≤ b0 ∧ b0 < n + A1.length := by
    intro b0 hb0
    rcases hC with ⟨h, _⟩ | ⟨b1, h, g1, g2, _⟩
    · omega
    · omega
  have hq3 : ∀ q, q ≠ y + 3 → K3 q = K2 q := by
    intro q hq
    rcases h3 with ⟨_, h⟩ | ⟨_, h⟩
    · rw [h]
    · rw [h, jx_u_r _ _ _ hq]
  have hq4 : ∀ k : Nat, (k : Int) ≠ l4 → K3 (y + 3) k = K2 (y + 3) k := by
    intro k hk
    rcases h3 with ⟨_, h⟩ | ⟨_, h⟩
    · rw [h]
    · rw [h, jx_u_k _ _ _ _ (by omega)]
  have hq5 : ∀ b0 : Nat, l4 = (b0 : Int) → K3 (y + 3) b0 = Int32.ofInt ((n + A1.length : Nat) : Int) := by
    intro b0 hb0
    rcases h3 with ⟨h, _⟩ | ⟨_, h⟩
    · omega
    · rw [h, hb0, Int.toNat_natCast, jx_u_s]
  have hF12 : FPz y tp (n + A1.length) (v + A3.length) K K2 := FPz_trans hF1 (FPz_t hF2 (by omega))
  have hF03 : FPz y tp n v I K3 := by
    have h9 : FPz y tp n v I K2 := FPz_trans hF (FPz_mono hF12 (by omega) (by omega))
    rcases h3 with ⟨_, h⟩ | ⟨h0, h⟩
    · rw [h]; exact h9
    · obtain ⟨b0, hb0⟩ : ∃ b0 : Nat, l4 = (b0 : Int) := ⟨l4.toNat, by omega⟩
      rw [h]
      exact FPz_s h9 (by omega) (by have := hl4 b0 hb0; omega)
  have hAold : CPR K3 y n t v (A1, A2, A3, 0) := by
    have h9 := CPR_f hR hF12 (Nat.le_refl _) (Nat.le_refl _)
    refine ⟨fun i e he => ⟨?_, fun h8 te hte => ?_⟩, fun i w hw => ?_⟩
    · have g := (h9.1 i e he).1
      unfold CS1 at g ⊢
      rw [hq3 (y + 1) (by omega), hq3 (y + 2) (by omega), hq3 (y + 4) (by omega), hq3 (y + 5) (by omega)]
      exact g
    · have g := (h9.1 i e he).2 h8 te hte
      unfold CT1 at g ⊢
      rw [hq3 (y + 6) (by omega), hq3 (y + 7) (by omega), hq3 (y + 8) (by omega), hq3 (y + 11) (by omega)]
      exact g
    · rw [hq3 (y + 9) (by omega), hq3 (y + 10) (by omega)]
      exact h9.2 i w hw
  have hAnew : CPR K3 y (n + A1.length) (t + A2.length) (v + A3.length) (z.1, z.2.1, z.2.2.1, 0) := by
    have h9 := CPR_f (tp := tp) (n2 := n + A1.length + z.1.length) (v2 := v + A3.length + z.2.2.1.length) hO.2.1 (FPz_t hF2 (by omega)) (Nat.le_refl _) (Nat.le_refl _)
    refine ⟨fun i e he => ⟨?_, fun h8 te hte => ?_⟩, fun i w hw => ?_⟩
    · have g := (h9.1 i e he).1
      unfold CS1 at g ⊢
      rw [hq3 (y + 1) (by omega), hq3 (y + 2) (by omega), hq3 (y + 4) (by omega), hq3 (y + 5) (by omega)]
      exact g
    · have g := (h9.1 i e he).2 h8 te hte
      unfold CT1 at g ⊢
      rw [hq3 (y + 6) (by omega), hq3 (y + 7) (by omega), hq3 (y + 8) (by omega), hq3 (y + 11) (by omega)]
      exact g
    · rw [hq3 (y + 9) (by omega), hq3 (y + 10) (by omega)]
      exact h9.2 i w hw
  have hNB3 : NBH K3 y (n + A1.length) o z := by
    have hk : ∀ k, n + A1.length ≤ k → nxt K3 y k = nxt K1 y k := fun k hk => by
      have h9 : K3 (y + 3) k = K2 (y + 3) k := hq4 k (by
        intro h
        have := hl4 k h.symm
        omega)
      unfold nxt
      rw [h9, hF2 (y + 3) (by omega)]
    obtain ⟨g1, e, B, g2, g3, g4, g5, g6⟩ := hN
    refine ⟨by rw [hk _ (Nat.le_refl _)]; exact g1, e, B, g2, g3, g4, g5, fun F hF => ⟨fun h7 => NBf_c _ _ _ _ ((g6 F hF).1 h7) (fun k a b => ⟨hk k (by omega), rfl⟩), fun h9 => NBf_c _ _ _ _ ((g6 F hF).2 h9) (fun k a b => ⟨hk k (by omega), rfl⟩)⟩⟩
  refine ⟨hF03, A1 ++ z.1, A2 ++ z.2.1, A3 ++ z.2.2.1, skB T (z.2.2.2 + 1), f, ?_, by omega, ⟨?_, ?_, ?_, ?_⟩, ?_, ?_, ?_, ?_, ?_⟩
  · rw [hE]
    simp only [List.length_append]
    rw [Nat.add_assoc n, Nat.add_assoc t, Nat.add_assoc v]
    cases pSteps T ln lm f o (skB T (z.2.2.2 + 1)) (n + (A1.length + z.1.length)) (t + (A2.length + z.2.1.length)) (v + (A3.length + z.2.2.1.length)) with
    | error e => rfl
    | ok b => show Except.ok (A1 ++ (z.1 ++ b.1), A2 ++ (z.2.1 ++ b.2.1), A3 ++ (z.2.2.1 ++ b.2.2.1), b.2.2.2) = Except.ok (A1 ++ z.1 ++ b.1, A2 ++ z.2.1 ++ b.2.1, A3 ++ z.2.2.1 ++ b.2.2.1, b.2.2.2); rw [List.append_assoc, List.append_assoc, List.append_assoc]
  · rcases h3 with ⟨_, h⟩ | ⟨_, h⟩
    · rw [h]; exact hC2
    · rw [h]; exact CST_w hC2 (by omega)
  · rw [hq3 y (by omega), hF2 y (by omega), hO.2.2.1, List.length_append]; omega
  · rw [hq3 y (by omega), hF2 y (by omega), hO.2.2.2, List.length_append]; omega
  · exact LLM_r hL (by rw [hq3 ld (by omega)]; exact hF12.1 ld hla.1 (by omega) (by omega))
  · exact CPR_app (q := 0) (q2 := 0) hAold hW hAnew a5 rfl rfl rfl
  · exact WQ_app hW a5 rfl rfl rfl
  · simp only [List.length_append]
    omega
  · rw [List.length_append]; omega
  · refine CHN_step hC ho rfl hNB3 (fun k hk hkb => ?_) (fun b0 hb0 => ?_)
    · unfold nxt
      rw [hq4 k hkb, hF12.2.1 3 k (by omega) (by omega) hk]
    · unfold nxt
      rw [hq5 b0 hb0]
      exact jy_toInt (by omega)
