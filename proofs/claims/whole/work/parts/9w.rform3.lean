/-! ===== the reference reads a law, 2 ===== -/
/-- codes are being read, R0 in all -/
def FLp (I K : jx_I) (m : Nat) (T : List Int) (o : Nat) (L : List Int) (rest : Nat → Nat → PF) (R0 : PF) : Prop := FLa m I K ∧ ((∃ e, R0 = .error e ∧ RER K m T e) ∨ ∃ (A : List Int) (p g : Nat), R0 = (rest g p).bind (fun z => .ok (A ++ z.1, z.2)) ∧ T.length < g + p ∧ ROK K m T p ∧ RLW K m (L ++ A) ∧ (L ++ A).length ≤ p ∧ (K m 25).toInt = (o : Int))
theorem FLp_x {I K : jx_I} {m : Nat} {T : List Int} {o : Nat} {L : List Int} {rest : Nat → Nat → PF} {R0 : PF} (h : FLp I K m T o L rest R0) : ∃ (x : PX Nat) (A : List Int) (g : Nat), RST K m T x ∧ (∀ p, x = .ok p → R0 = (rest g p).bind (fun z => .ok (A ++ z.1, z.2)) ∧ T.length < g + p ∧ RLW K m (L ++ A) ∧ (L ++ A).length ≤ p ∧ (K m 25).toInt = (o : Int)) ∧ (∀ e, x = .error e → R0 = .error e) := by
  rcases h.2 with ⟨e, h1, h2⟩ | ⟨A, p, g, h1, h2, h3, h4, h5, h6⟩
  · exact ⟨.error e, [], 0, h2, fun p h => (by cases h), fun e h => by cases h; exact h1⟩
  · exact ⟨.ok p, A, g, h3, fun p h => (by cases h; exact ⟨h1, h2, h4, h5, h6⟩), fun e h => by cases h⟩
/-- the first was read -/
theorem FLp_0 {I K : jx_I} {m : Nat} {T : List Int} {o : Nat} {L : List Int} {rest : Nat → Nat → PF} {y : PF} (hF : FLa m I K) (h : REL K m T o L y) {s : Nat} (hs : L.length ≤ s) (hl : ∀ r, y = .ok r → s + r.1.length ≤ r.2) : FLp I K m T o L rest (y.bind (fun r => (rest (T.length + 1) r.2).bind (fun z => .ok (r.1 ++ z.1, z.2)))) := by
  refine ⟨hF, ?_⟩
  cases y with
  | error e => exact Or.inl ⟨e, rfl, h⟩
  | ok r =>
    refine Or.inr ⟨r.1, r.2, T.length + 1, rfl, by omega, h.1, h.2.1, ?_, h.2.2⟩
    rw [List.length_append]
    have := hl r rfl
    omega
/-- one more, and its sign c -/
theorem FLp_s {I K K2 : jx_I} {m : Nat} {T : List Int} {o : Nat} {L A : List Int} {rest : Nat → Nat → PF} {R0 y : PF} {c : Int} {p g q : Nat} (hF : FLa m I K2) (hE : R0 = (rest (g + 1) p).bind (fun z => .ok (A ++ z.1, z.2))) (hr : rest (g + 1) p = y.bind (fun r => (rest g r.2).bind (fun z => .ok (r.1 ++ (c :: z.1), z.2)))) (hg : T.length < g + 1 + p) (hq : p < q) (hA : (L ++ A).length ≤ p) (h : REL K m T o (L ++ A) y) (hl : ∀ r, y = .ok r → q + r.1.length ≤ r.2) (hS : RST K2 m T (y.bind (fun r => .ok r.2))) (hL : ∀ r, y = .ok r → RLW K2 m (L ++ A ++ r.1 ++ [c]) ∧ K2 m 25 = K m 25) : FLp I K2 m T o L rest R0 := by
  refine ⟨hF, ?_⟩
  rw [hr] at hE
  cases y with
  | error e => exact Or.inl ⟨e, hE, hS⟩
  | ok r =>
    obtain ⟨g1, g2⟩ := hL r rfl
    have := hl r rfl
    rw [List.length_append] at hA
    refine Or.inr ⟨A ++ (r.1 ++ [c]), r.2, g, ?_, by omega, hS, ?_, ?_, ?_⟩
    · rw [hE]
      show ((rest g r.2).bind _).bind _ = _
      cases rest g r.2 with
      | error e => rfl
      | ok z => show Except.ok (A ++ (r.1 ++ (c :: z.1)), z.2) = Except.ok (A ++ (r.1 ++ [c]) ++ z.1, z.2); rw [List.append_assoc, List.append_assoc]; rfl
    · rw [← List.append_assoc, ← List.append_assoc]; exact g1
    · rw [List.length_append, List.length_append, List.length_append]; show L.length + (A.length + (r.1.length + 1)) ≤ _; omega
    · rw [g2]; exact h.2.2
theorem FLp_end {K : jx_I} {m : Nat} {T : List Int} {o : Nat} {L A : List Int} {R0 : PF} {p : Nat} {K2 : jx_I} (hE : R0 = .ok (A, p)) (hK : ROK K2 m T p) (hL : RLW K m (L ++ A)) (h25 : (K m 25).toInt = (o : Int)) (hF : FO m [4] K K2) : REL K2 m T o L R0 := by
  rw [hE]
  exact ⟨hK, RLW_o hL hF (by decide), by rw [hF.2 25 (by decide)]; exact h25⟩
theorem lPr_0 {T : List Int} {rec : Option (Nat → PF)} {g p : Nat} (h : tat T p ≠ 42) : lPr T rec (g + 1) p = .ok ([], p) := by rw [lPr_s, if_neg h]
theorem lPr_1 {T : List Int} {rec : Option (Nat → PF)} {g p : Nat} (h : tat T p = 42) : lPr T rec (g + 1) p = (lUnit T rec (skB T (p + 1))).bind (fun r => (lPr T rec g r.2).bind (fun z => .ok (r.1 ++ (107 :: z.1), z.2))) := by rw [lPr_s, if_pos h]
theorem lSr_0 {T : List Int} {rec : Option (Nat → PF)} {g p : Nat} (h : lSg (tat T p) = -1) : lSr T rec (g + 1) p = .ok ([], p) := by rw [lSr_s, if_pos h]
theorem lSr_1 {T : List Int} {rec : Option (Nat → PF)} {g p : Nat} {c : Int} (h : lSg (tat T p) = c) (hc : c ≠ -1) : lSr T rec (g + 1) p = (lPro T rec (skB T (p + 1))).bind (fun r => (lSr T rec g r.2).bind (fun z => .ok (r.1 ++ (c :: z.1), z.2))) := by rw [lSr_s, if_neg (by omega), h]
/-- GrievingCamelsModel.product -/
theorem cz_226s {V : jx_V} (hV : V.1.stackTraces = false) {d : Nat} {X : jx_X} {R : jx_R} {I : jx_I} {a0 : Nat} {T : List Int} {x : PX Nat} {L : List Int} {y : Nat}
    (hM : MX X R a0) (hx : RST I a0 T x) (hc : ∀ s, x = .ok s → RLW I a0 L ∧ L.length ≤ s ∧ (I a0 25).toInt = ((6 - y : Nat) : Int)) (h600 : T.length ≤ 600) (hy : y ≤ 6) (hd : 7 + 3 * y ≤ d) (ih : G227 V X R a0 T y)
    {QE : String → jx_I → Prop} : jc V d 226 (0, 0) [.ref a0] X I R (fun rv I' => rv = none ∧ REL I' a0 T (6 - y) L (x.bind (lPro T (lRec T y))) ∧ FLa a0 I I') QE := by
  refine wm_226 hV   (fun J4 hJJ => ?_)
  have hJ4 := hJJ
  unfold wz_226
  refine ⟨s_M_0 hM, ?_⟩
  refine ⟨_, by omega, _, ih (d - 1) x L I _ hx hc (by omega), ?_⟩
  rintro _ I6 ⟨rfl, hE6, hF6⟩
  refine ⟨rfl, ?_⟩
  have L4 : ∀ (n4 : Nat)  (K : jx_I), n4 = (if (K a0 5).toInt ≠ 0 then 0 else 1 + (1300 - (K a0 24).toInt).toNat) → (FLp I K a0 T (6 - y) L (lPr T (lRec T y)) (x.bind (lPro T (lRec T y)))) → J4  K := by
    intro n4
    induction n4 using Nat.strongRecOn with
    | ind n4 ih4 =>
    intro  K hn4 hI4
    obtain ⟨xk, A, g, hxk, hgo, hge⟩ := FLp_x hI4
    obtain ⟨hFK, _⟩ := id hI4
    refine hJ4 _ ?_
    unfold wz_226_4
    refine ⟨s_M_0 hM, ?_⟩
    refine ⟨by omega, _, cz_218g hV hM hxk (by omega), ?_⟩
    rintro _ I12 ⟨⟨r129, rfl, ho12⟩, hF12⟩
    refine ⟨_, rfl, ?_⟩
    refine ⟨by omega, ?_⟩
    refine ⟨fun hq1 => ?_, fun hq1 => ?_⟩
    · obtain ⟨_, hn12, hx12⟩ := ho12.resolve_left (fun k => by omega)
      refine ⟨rfl, ?_, FLa_trans hFK (FLa_o hF12 (by decide))⟩
      cases xk with
      | error e => rw [hge e rfl]; exact hx12
      | ok s =>
        obtain ⟨hg1, hg2, hg3, hg4, hg5⟩ := hgo s rfl
        have hsl := (ROK_s (show ROK K a0 T s from hxk)).1
        obtain ⟨g, rfl⟩ : ∃ h, g = h + 1 := ⟨g - 1, by omega⟩
        refine FLp_end (A := A) (p := s) ?_ hx12 hg3 hg5 hF12
        rw [hg1, lPr_0 (hn12 s rfl).1]
        show Except.ok (A ++ [], s) = _
        rw [List.append_nil]
    · obtain ⟨_, s, hxs, h42, hok12⟩ := ho12.resolve_right (fun k => hq1 k.1)
      subst hxs
      obtain ⟨hg1, hg2, hg3, hg4, hg5⟩ := hgo s rfl
      have hsl := (ROK_s (show ROK K a0 T s from hxk)).1
      have hl42 := tat_in h42 (by decide)
      have hs1 := AT_s (T := T) (p := s + 1) (by omega)
      have hs12 := hs1.2
      obtain ⟨g, rfl⟩ : ∃ h, g = h + 1 := ⟨g - 1, by omega⟩
      have hgl : ∀ r, lUnit T (lRec T y) (skB T (s + 1)) = .ok r → skB T (s + 1) + r.1.length ≤ r.2 ∧ r.2 ≤ T.length := fun r hr => by
        have h9 := lUnit_ok (U := 2 * y + 1) (by omega) (lRec_h y) hs1.1.1 hr
        exact ⟨h9.2.2.1, h9.2.1.1⟩
      refine ⟨_, by omega, _, ih (d - 1) (.ok (skB T (s + 1))) (L ++ A) I12 _ hok12 (fun s2 h2 => by cases h2; exact ⟨RLW_o hg3 hF12 (by decide), by omega, by rw [hF12.2 25 (by decide)]; exact hg5⟩) (by omega), ?_⟩
      rintro _ I19 ⟨rfl, hE19, hF19⟩
      refine ⟨rfl, ?_⟩
      replace hE19 : REL I19 a0 T (6 - y) (L ++ A) (lUnit T (lRec T y) (skB T (s + 1))) := hE19
      have hRL19 : ∀ s2, (lUnit T (lRec T y) (skB T (s + 1))).bind (fun r => .ok r.2) = .ok s2 → RLW I19 a0 (match lUnit T (lRec T y) (skB T (s + 1)) with | .ok r => L ++ A ++ r.1 | .error _ => []) ∧ (match lUnit T (lRec T y) (skB T (s + 1)) with | .ok r => L ++ A ++ r.1 | .error _ => []).length < 620 := by
        intro s2 h2
        cases hu : lUnit T (lRec T y) (skB T (s + 1)) with
        | error e => rw [hu] at h2; cases h2
        | ok r =>
          rw [hu] at hE19
          have := hgl r hu
          exact ⟨hE19.2.1, by show (L ++ A ++ r.1).length < 620; rw [List.length_append]; omega⟩
      refine ⟨by omega, _, cz_224 (x := (lUnit T (lRec T y) (skB T (s + 1))).bind (fun r => .ok r.2)) (L := match lUnit T (lRec T y) (skB T (s + 1)) with | .ok r => L ++ A ++ r.1 | .error _ => []) (c := 107) hV hM (REL_r hE19) (fun s2 h2 => hRL19 s2 h2) ⟨fun h => by omega, fun _ h => by omega, fun _ => by omega⟩ (by omega) (by omega), ?_⟩
      rintro _ I24 ⟨rfl, hx24, hL24r, hF24⟩
      refine ⟨rfl, ?_⟩
      have hL24 : ∀ r, lUnit T (lRec T y) (skB T (s + 1)) = .ok r → RLW I24 a0 (L ++ A ++ r.1 ++ [107]) ∧ I24 a0 25 = I19 a0 25 := by
        intro r hr
        have h9 := hL24r r.2 (by rw [hr]; rfl)
        rw [hr] at h9
        exact h9
      have hm9 : (if (I24 a0 5).toInt ≠ 0 then 0 else 1 + (1300 - (I24 a0 24).toInt).toNat) < n4 := by
        have hn9 : n4 = 1 + (1300 - ((L ++ A).length : Int)).toNat := by rw [hn4, if_neg (fun k => k (by obtain ⟨_, _, _, h⟩ := hxk; exact h.1.2.2.1)), hg3.1]
        by_cases c9 : (I24 a0 5).toInt ≠ 0
        · rw [if_pos c9]; omega
        · rw [if_neg c9]
          obtain ⟨s9, hs9, _⟩ := RST_5 hx24 (by omega)
          obtain ⟨r9, hr9, _⟩ := px_ok hs9
          obtain ⟨g9, _⟩ := hL24 r9 hr9
          rw [g9.1]
          have := hgl r9 hr9
          simp only [List.length_append, List.length_singleton] at *
          omega
      exact ih4 _ (by omega) _ rfl (FLp_s (FLa_trans hFK (FLa_trans (FLa_o hF12 (by decide)) (FLa_trans hF19 hF24))) hg1 (lPr_1 h42) hg2 (by omega) hg4 hE19 (fun r hr => (hgl r hr).1) hx24 hL24)
  have hI60 : FLp I I6 a0 T (6 - y) L (lPr T (lRec T y)) (x.bind (lPro T (lRec T y))) := by
    cases x with
    | error e => exact ⟨hF6, Or.inl ⟨e, rfl, hE6⟩⟩
    | ok s => exact FLp_0 hF6 hE6 (hc s rfl).2.1 (fun r hr => (lUnit_ok (U := 2 * y + 1) (by omega) (lRec_h y) (ROK_s (show ROK I a0 T s from hx)).1 hr).2.2.1)
  exact L4 _ _ rfl (hI60)
