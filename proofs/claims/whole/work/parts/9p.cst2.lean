/-! ===== the class within a step ===== -/
/-- a step's row, behind what belongs to its word -/
def CA (I K : jx_I) (y tp ld : Nat) (T : List Int) (fd : Int) (ln lm n v : Nat) (k : Int) (a : PA) : Prop := FPz y tp n v I K ∧ CST K tp T fd (.ok a.2.2.2) ∧ ((K (y + 1) n).toInt = k ∧ (K (y + 2) n).toInt = a.1 ∧ nxt K y n = -1 ∧ (K (y + 5) n).toInt = -1) ∧ (∀ te, a.2.1[0]? = some te → CT1 K y n v te a.2.2.1) ∧ CVW K y v a.2.2.1 ∧ ((K y 11).toInt = ((n + 1 : Nat) : Int) ∧ (K y 12).toInt = ((v + a.2.2.1.length : Nat) : Int)) ∧ LLM K ld ln lm
/-- .. behind its first block -/
def SB (I K : jx_I) (y tp ld : Nat) (T : List Int) (fd : Int) (ln lm o n t v : Nat) (k : Int) (a : PA) (b : PS) : Prop := FPz y tp n v I K ∧ CST K tp T fd (.ok b.2.2.2) ∧ ((K (y + 1) n).toInt = k ∧ (K (y + 2) n).toInt = a.1 ∧ nxt K y n = -1 ∧ (K (y + 5) n).toInt = -1) ∧ ((∀ te, a.2.1[0]? = some te → CT1 K y n v te a.2.2.1) ∧ CVW K y v a.2.2.1) ∧ CPR K y (n + 1) (t + a.2.1.length) (v + a.2.2.1.length) b ∧ ((K y 11).toInt = ((n + 1 + b.1.length : Nat) : Int) ∧ (K y 12).toInt = ((v + a.2.2.1.length + b.2.2.1.length : Nat) : Int)) ∧ NBB K y (n + 1) (o + 1) b ∧ LLM K ld ln lm
theorem SB_mk {I K K2 : jx_I} {y tp ld : Nat} {T : List Int} {fd : Int} {ln lm o n t v : Nat} {k : Int} {a : PA} {b : PS} (h : CA I K y tp ld T fd ln lm n v k a) (hO : CPO K2 y tp T fd (n + 1) (t + a.2.1.length) (v + a.2.2.1.length) b) (hN : NBB K2 y (n + 1) (o + 1) b) (hF : FPz y tp (n + 1) (v + a.2.2.1.length) K K2) (hla : ld ≠ tp ∧ (ld < y ∨ y + 12 ≤ ld)) : SB I K2 y tp ld T fd ln lm o n t v k a b := by
  obtain ⟨h1, h2, h3, h4, h5, h6, h7⟩ := h
  refine ⟨FPz_trans h1 (FPz_mono hF (by omega) (by omega)), hO.1, ?_, ⟨fun te hte => CT1_f (h4 te hte) hF (by omega) (Nat.le_refl _), CVW_f h5 hF (Nat.le_refl _)⟩, hO.2.1, hO.2.2, hN, LLM_r h7 (hF.1 ld hla.1 (by omega) (by omega))⟩
  unfold nxt at h3 ⊢
  rw [hF.2.1 1 n (by omega) (by omega) (by omega), hF.2.1 2 n (by omega) (by omega) (by omega), hF.2.1 3 n (by omega) (by omega) (by omega), hF.2.1 5 n (by omega) (by omega) (by omega)]
  exact h3
/-- all but one place of a row stays -/
def Jus (y j n : Nat) (K K2 : jx_I) : Prop := (∀ q, q ≠ y + j → K2 q = K q) ∧ ∀ i, i ≠ n → K2 (y + j) i = K (y + j) i
theorem Jus_u {y j n : Nat} {K : jx_I} {x : Int32} : Jus y j n K (jx_u K (y + j) n x) := ⟨fun q hq => by rw [jx_u_r _ _ _ hq], fun i hi => jx_u_k _ _ _ _ hi⟩
theorem CPR_u {K K2 : jx_I} {y j n n1 t v : Nat} {r : PS} (h : CPR K y n1 t v r) (hu : Jus y j n K K2) (hj : j = 4 ∨ j = 5) (hn : n < n1) : CPR K2 y n1 t v r := by
  have hq : ∀ j2 i, 1 ≤ j2 → j2 ≤ 11 → (j2 = j → i ≠ n) → K2 (y + j2) i = K (y + j2) i := by
    intro j2 i _ _ hi
    by_cases e : j2 = j
    · subst e; exact hu.2 i (hi rfl)
    · rw [hu.1 (y + j2) (by omega)]
  refine ⟨fun i e he => ⟨?_, fun h8 te hte => ?_⟩, fun i w hw => ?_⟩
  · have g := (h.1 i e he).1
    unfold CS1 at g ⊢
    rw [hq 1 _ (by omega) (by omega) (by omega), hq 2 _ (by omega) (by omega) (by omega), hq 4 _ (by omega) (by omega) (by omega), hq 5 _ (by omega) (by omega) (by omega)]
    exact g
  · have g := (h.1 i e he).2 h8 te hte
    refine ⟨by rw [hq 6 _ (by omega) (by omega) (by omega)]; exact g.1, by rw [hq 7 _ (by omega) (by omega) (by omega)]; exact g.2.1, by rw [hq 8 _ (by omega) (by omega) (by omega)]; exact g.2.2.1, fun j2 w a b c => by rw [hq 11 _ (by omega) (by omega) (by omega)]; exact g.2.2.2 j2 w a b c⟩
  · rw [hq 9 _ (by omega) (by omega) (by omega), hq 10 _ (by omega) (by omega) (by omega)]
    exact h.2 i w hw
theorem CT1_u {K K2 : jx_I} {y j n i v : Nat} {te : TE} {W : List VA} (g : CT1 K y i v te W) (hu : Jus y j n K K2) (hj : j = 4 ∨ j = 5) : CT1 K2 y i v te W := by
  unfold CT1
  rw [hu.1 (y + 6) (by omega), hu.1 (y + 7) (by omega), hu.1 (y + 8) (by omega), hu.1 (y + 11) (by omega)]
  exact g
theorem CVW_u {K K2 : jx_I} {y j n v : Nat} {W : List VA} (g : CVW K y v W) (hu : Jus y j n K K2) (hj : j = 4 ∨ j = 5) : CVW K2 y v W := by
  unfold CVW
  rw [hu.1 (y + 9) (by omega), hu.1 (y + 10) (by omega)]
  exact g
/-- the step's end without else: K2 is K but for row 4 -/
theorem SB_end {I K K2 : jx_I} {y tp ld : Nat} {T : List Int} {fd : Int} {ln lm o n t v : Nat} {k : Int} {a : PA} {b : PS} (h : SB I K y tp ld T fd ln lm o n t v k a b) (hu : Jus y 4 n K K2) (h4 : (K2 (y + 4) n).toInt = if n + 1 < n + 1 + b.1.length then ((n + 1 : Nat) : Int) else -1) (hk : 7 ≤ k ∧ k ≤ 9) (h8 : 8 ≤ k → a.2.1.length = 1) (hU : ∀ te, a.2.1[0]? = some te → te.2.2.2 ≤ v + a.2.2.1.length) (hwq : WQ ln lm (n + 1) (t + a.2.1.length) (v + a.2.2.1.length) b.1 b.2.1 b.2.2.1) (hd : tp + 2 ≤ y ∨ y + 12 ≤ tp) : CPO K2 y tp T fd n t v (pS1 n t k a b) ∧ NBH K2 y n o (pS1 n t k a b) ∧ FPz y tp n v I K2 := by
  obtain ⟨h1, h2, h3, h5, h6, h7, hN, h9⟩ := h
  have hnx : nxt K2 y = nxt K y := by
    unfold nxt
    rw [hu.1 (y + 3) (by omega)]
  have hcs : CS1 K2 y n (k.toNat, a.1, t, n + 1 + b.1.length, n + 1 + b.1.length) := by
    refine ⟨?_, ?_, fun _ => h4, fun _ => ?_⟩
    · rw [hu.1 (y + 1) (by omega), h3.1]; show k = ((k.toNat : Nat) : Int); omega
    · rw [hu.1 (y + 2) (by omega)]; exact h3.2.1
    · rw [hu.1 (y + 5) (by omega), h3.2.2.2]
      show (-1 : Int) = if n + 1 + b.1.length < n + 1 + b.1.length then _ else -1
      rw [if_neg (Nat.lt_irrefl _)]
  refine ⟨⟨?_, ?_, ?_, ?_⟩, ⟨by rw [hnx]; exact h3.2.2.1, _, b.1, rfl, ?_, Nat.le_refl _, ?_, fun F hF => ⟨fun _ => ?_, fun _ => NBf_0 (Nat.le_refl _)⟩⟩, ?_⟩
  · cases h2 with
    | intro g g2 =>
      obtain ⟨wf, we, nf, g3⟩ := g2
      exact ⟨g, wf, we, nf, TX_of g3 (hu.1 tp (by omega)) (hu.1 (tp + 1) (by omega))⟩
  · exact CPR_cons (q2 := 0) hcs (fun h => ⟨rfl, by
      have : 8 ≤ k.toNat := h
      have h9 := h8 (by omega)
      intro e
      rw [e] at h9
      cases h9⟩) (fun te hte => ⟨CT1_u (h5.1 te hte) hu (Or.inl rfl), hU te hte⟩) (CVW_u h5.2 hu (Or.inl rfl)) (show CPR K2 y (n + 1) (t + a.2.1.length) (v + a.2.2.1.length) (b.1, b.2.1, b.2.2.1, 0) from CPR_u h6 hu (Or.inl rfl) (by omega)) hwq rfl rfl rfl
  · rw [hu.1 y (by omega), h7.1]; show ((n + 1 + b.1.length : Nat) : Int) = ((n + (b.1.length + 1) : Nat) : Int); omega
  · rw [hu.1 y (by omega), h7.2]; show _ = ((v + (a.2.2.1 ++ b.2.2.1).length : Nat) : Int); rw [List.length_append, Nat.add_assoc]
  · show n < n + 1 + b.1.length; omega
  · show n + 1 + b.1.length = n + (b.1.length + 1); omega
  · rw [hnx]
    exact NBf_c _ _ _ _ (hN F hF) (fun k g1 g2 => ⟨rfl, glk_r (A := [_]) g1 rfl⟩)
  · exact ⟨fun q g1 g2 g3 => by rw [hu.1 q (by omega)]; exact h1.1 q g1 g2 g3, fun j i g1 g2 g3 => by
      by_cases e : j = 4
      · subst e; rw [hu.2 i (by omega)]; exact h1.2.1 4 i g1 g2 g3
      · rw [hu.1 (y + j) (by omega)]; exact h1.2.1 j i g1 g2 g3, fun j i g1 g2 g3 => by rw [hu.1 (y + j) (by omega)]; exact h1.2.2 j i g1 g2 g3⟩
/-- .. with else -/
def pS2 (n t : Nat) (k : Int) (a : PA) (b c : PS) : PS := ((k.toNat, a.1, t, n + 1 + b.1.length, n + 1 + b.1.length + c.1.length) :: (b.1 ++ c.1), a.2.1 ++ (b.2.1 ++ c.2.1), a.2.2.1 ++ (b.2.2.1 ++ c.2.2.1), c.2.2.2)
theorem SB_else {I K K2 K3 K4 : jx_I} {y tp ld : Nat} {T : List Int} {fd : Int} {ln lm o n t v : Nat} {k : Int} {a : PA} {b c : PS} (h : SB I K y tp ld T fd ln lm o n t v k a b) (hu : Jus y 4 n K K2) (h4 : (K2 (y + 4) n).toInt = if n + 1 < n + 1 + b.1.length then ((n + 1 : Nat) : Int) else -1) (hO : CPO K3 y tp T fd (n + 1 + b.1.length) (t + a.2.1.length + b.2.1.length) (v + a.2.2.1.length + b.2.2.1.length) c) (hN3 : NBB K3 y (n + 1 + b.1.length) (o + 1) c) (hF3 : FPz y tp (n + 1 + b.1.length) (v + a.2.2.1.length + b.2.2.1.length) K2 K3) (hu5 : Jus y 5 n K3 K4) (h54 : (K4 (y + 5) n).toInt = if n + 1 + b.1.length < n + 1 + b.1.length + c.1.length then ((n + 1 + b.1.length : Nat) : Int) else -1) (hk : 7 ≤ k ∧ k ≤ 9) (h8 : 8 ≤ k → a.2.1.length = 1) (hU : ∀ te, a.2.1[0]? = some te → te.2.2.2 ≤ v + a.2.2.1.length) (hwq : WQ ln lm (n + 1) (t + a.2.1.length) (v + a.2.2.1.length) b.1 b.2.1 b.2.2.1) (hwc : WQ ln lm (n + 1 + b.1.length) (t + a.2.1.length + b.2.1.length) (v + a.2.2.1.length + b.2.2.1.length) c.1 c.2.1 c.2.2.1) (hd : tp + 2 ≤ y ∨ y + 12 ≤ tp) : CPO K4 y tp T fd n t v (pS2 n t k a b c) ∧ NBH K4 y n o (pS2 n t k a b c) ∧ FPz y tp n v I K4 := by
  obtain ⟨g1, _, g3⟩ := SB_end h hu h4 hk h8 hU hwq hd
  obtain ⟨h1, h2, h3, h5, h6, h7, hN, h9⟩ := h
  have hF2' : ∀ j i, 1 ≤ j → j ≤ 8 → i < n + 1 + b.1.length → (j ≠ 5 ∨ i ≠ n) → K4 (y + j) i = K2 (y + j) i := by
    intro j i a1 a2 a3 a4
    have h10 : K4 (y + j) i = K3 (y + j) i := by
      by_cases e : j = 5
      · subst e; exact hu5.2 i (by omega)
      · rw [hu5.1 (y + j) (by omega)]
    rw [h10]
    exact hF3.2.1 j i a1 a2 a3
  have hnx : ∀ k, k < n + 1 + b.1.length → nxt K4 y k = nxt K y k := by
    intro k hk
    unfold nxt
    rw [hF2' 3 k (by omega) (by omega) hk (Or.inl (by omega)), hu.1 (y + 3) (by omega)]
  have hnx3 : nxt K4 y = nxt K3 y := by
    unfold nxt
    rw [hu5.1 (y + 3) (by omega)]
  have hcs : CS1 K4 y n (k.toNat, a.1, t, n + 1 + b.1.length, n + 1 + b.1.length + c.1.length) := by
    refine ⟨?_, ?_, fun _ => ?_, fun _ => h54⟩
    · rw [hF2' 1 n (by omega) (by omega) (by omega) (Or.inl (by omega)), hu.1 (y + 1) (by omega), h3.1]; show k = ((k.toNat : Nat) : Int); omega
    · rw [hF2' 2 n (by omega) (by omega) (by omega) (Or.inl (by omega)), hu.1 (y + 2) (by omega)]; exact h3.2.1
    · rw [hF2' 4 n (by omega) (by omega) (by omega) (Or.inl (by omega))]; exact h4
  have hb2 : CPR K4 y (n + 1) (t + a.2.1.length) (v + a.2.2.1.length) (b.1, b.2.1, b.2.2.1, 0) := CPR_u (CPR_f (CPR_u h6 hu (Or.inl rfl) (by omega)) hF3 (Nat.le_refl _) (Nat.le_refl _)) hu5 (Or.inr rfl) (by omega)
  have hc2 : CPR K4 y (n + 1 + b.1.length) (t + a.2.1.length + b.2.1.length) (v + a.2.2.1.length + b.2.2.1.length) (c.1, c.2.1, c.2.2.1, 0) := CPR_u hO.2.1 hu5 (Or.inr rfl) (by omega)
  have hbc := CPR_app (q := 0) (q2 := 0) hb2 hwq hc2 hwc rfl rfl rfl
  have hT4 : ∀ te, a.2.1[0]? = some te → CT1 K4 y n v te a.2.2.1 := fun te hte => CT1_u (CT1_f (CT1_u (h5.1 te hte) hu (Or.inl rfl)) hF3 (by omega) (by omega)) hu5 (Or.inr rfl)
  have hW4 : CVW K4 y v a.2.2.1 := CVW_u (CVW_f (CVW_u h5.2 hu (Or.inl rfl)) hF3 (by omega)) hu5 (Or.inr rfl)
  refine ⟨⟨?_, ?_, ?_, ?_⟩, ⟨by rw [hnx n (by omega)]; exact h3.2.2.1, _, b.1 ++ c.1, rfl, ?_, ?_, ?_, fun F hF => ⟨fun _ => ?_, fun _ => ?_⟩⟩, ?_⟩
  · obtain ⟨g, wf, we, nf, g4⟩ := hO.1
    exact ⟨g, wf, we, nf, TX_of g4 (hu5.1 tp (by omega)) (hu5.1 (tp + 1) (by omega))⟩
  · exact CPR_cons hcs (fun h => ⟨rfl, by
      have : 8 ≤ k.toNat := h
      have h9 := h8 (by omega)
      intro e
      rw [e] at h9
      cases h9⟩) (fun te hte => ⟨hT4 te hte, hU te hte⟩) hW4 hbc (WQ_app hwq hwc rfl rfl rfl) rfl rfl rfl
  · rw [hu5.1 y (by omega), hO.2.2.1]; show _ = ((n + ((b.1 ++ c.1).length + 1) : Nat) : Int); rw [List.length_append]; omega
  · rw [hu5.1 y (by omega), hO.2.2.2]; show _ = ((v + (a.2.2.1 ++ (b.2.2.1 ++ c.2.2.1)).length : Nat) : Int); rw [List.length_append, List.length_append]; omega
  · show n < n + 1 + b.1.length; omega
  · show n + 1 + b.1.length ≤ n + 1 + b.1.length + c.1.length; omega
  · show n + 1 + b.1.length + c.1.length = n + ((b.1 ++ c.1).length + 1); rw [List.length_append]; omega
  · rw [List.length_append] at hF
    exact NBf_c _ _ _ _ (hN F (by omega)) (fun k' g1 g2 => ⟨hnx k' g2, by
      show glk n (_ :: (b.1 ++ c.1)) k' = _
      rw [show glk n ((k.toNat, a.1, t, n + 1 + b.1.length, n + 1 + b.1.length + c.1.length) :: (b.1 ++ c.1)) k' = glk (n + 1) (b.1 ++ c.1) k' from glk_r (A := [_]) g1 rfl]
      exact glk_l g2⟩)
  · rw [List.length_append] at hF
    rw [hnx3]
    exact NBf_c _ _ _ _ (hN3 F (by omega)) (fun k' g1 g2 => ⟨rfl, by
      have g1' : n + 1 + b.1.length ≤ k' := g1
      show glk n (_ :: (b.1 ++ c.1)) k' = _
      rw [show glk n ((k.toNat, a.1, t, n + 1 + b.1.length, n + 1 + b.1.length + c.1.length) :: (b.1 ++ c.1)) k' = glk (n + 1) (b.1 ++ c.1) k' from glk_r (A := [_]) (by omega) rfl]
      exact glk_r g1 rfl⟩)
  · refine FPz_trans g3 ?_
    have h11 : FPz y tp n v K2 K3 := FPz_mono hF3 (by omega) (by omega)
    exact ⟨fun q g1 g2 g3 => by rw [hu5.1 q (by omega)]; exact h11.1 q g1 g2 g3, fun j i g1 g2 g3 => by
      by_cases e : j = 5
      · subst e; rw [hu5.2 i (by omega)]; exact h11.2.1 5 i g1 g2 g3
      · rw [hu5.1 (y + j) (by omega)]; exact h11.2.1 j i g1 g2 g3, fun j i g1 g2 g3 => by rw [hu5.1 (y + j) (by omega)]; exact h11.2.2 j i g1 g2 g3⟩
