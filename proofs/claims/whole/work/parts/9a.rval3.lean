/-! ===== the reference reads values, tests ===== -/
theorem RST_x {I : jx_I} {m : Nat} {T : List Int} {x : PX Nat} (h : RST I m T x) : ∃ (p : Nat) (fk fa : Int), RTX I m T (p : Int) fk fa ∧ (∀ I', RTX I' m T (skB T p : Nat) fk fa → RST I' m T x) ∧ ∀ s, x = .ok s → skB T p = s ∧ fk = 0 ∧ fa = -1 := by
  cases x with
  | ok s =>
    obtain ⟨p, hp, hs, hT⟩ := h
    exact ⟨p, 0, -1, hT, fun I' h => ⟨skB T p, (skB_le hp).2, by rw [skB_idem, hs], h⟩, fun s2 h => by cases h; exact ⟨hs, rfl, rfl⟩⟩
  | error e =>
    obtain ⟨h1, h2, p, hT⟩ := h
    exact ⟨p, _, _, hT, fun I' h => ⟨h1, h2, skB T p, h⟩, fun s2 h => by cases h⟩
theorem pVals_s {T : List Int} {lm f p : Nat} {s : Int} : pVals T lm (f + 1) p s = (pVal T lm p).bind (fun r => if tat T r.2.2 = 43 then (pVals T lm f (skB T (r.2.2 + 1)) 1).bind (fun z => .ok ((s, r.1, r.2.1) :: z.1, z.2)) else if tat T r.2.2 = 45 then (pVals T lm f (skB T (r.2.2 + 1)) (-1)).bind (fun z => .ok ((s, r.1, r.2.1) :: z.1, z.2)) else .ok ([(s, r.1, r.2.1)], r.2.2)) := rfl
theorem pVals_0 {T : List Int} {lm f p k q : Nat} {s x : Int} (h : pVal T lm p = .ok (k, x, q)) (h1 : tat T q ≠ 43) (h2 : tat T q ≠ 45) : pVals T lm (f + 1) p s = .ok ([(s, k, x)], q) := by rw [pVals_s, px_o h]; show (if tat T q = 43 then _ else if tat T q = 45 then _ else _) = _; rw [if_neg h1, if_neg h2]
theorem pVals_p {T : List Int} {lm f p k q : Nat} {s x : Int} (h : pVal T lm p = .ok (k, x, q)) (h1 : tat T q = 43) : pVals T lm (f + 1) p s = (pVals T lm f (skB T (q + 1)) 1).bind (fun z => .ok ((s, k, x) :: z.1, z.2)) := by rw [pVals_s, px_o h]; show (if tat T q = 43 then _ else if tat T q = 45 then _ else _) = _; rw [if_pos h1]
theorem pVals_m {T : List Int} {lm f p k q : Nat} {s x : Int} (h : pVal T lm p = .ok (k, x, q)) (h1 : tat T q = 45) : pVals T lm (f + 1) p s = (pVals T lm f (skB T (q + 1)) (-1)).bind (fun z => .ok ((s, k, x) :: z.1, z.2)) := by rw [pVals_s, px_o h]; show (if tat T q = 43 then _ else if tat T q = 45 then _ else _) = _; rw [if_neg (by omega), if_pos h1]
theorem pVals_e {T : List Int} {lm f p : Nat} {s : Int} {e : Int × Nat} (h : pVal T lm p = .error e) : pVals T lm (f + 1) p s = .error e := by rw [pVals_s, px_e h]
/-- the reference read values from v on -/
def RVS (I : jx_I) (m : Nat) (T : List Int) (v : Nat) : PX (List VA × Nat) → Prop
  | .ok r => ROK I m T r.2 ∧ (∀ (i : Nat) (e : VA), r.1[i]? = some e → RV1 I m (v + i) e) ∧ (I m 59).toInt = ((v + r.1.length : Nat) : Int)
  | .error e => RER I m T e
/-- values read in part: s0 the next's sign -/
def VSt (I K : jx_I) (m : Nat) (T : List Int) (lm v s : Nat) (s0 : Int) : Prop := FP m [4, 5, 6, 59] 120 120 v I K ∧ ((s0 = 0 ∧ RVS K m T v (pVals T lm (T.length + 1) s 1)) ∨ ((s0 = 1 ∨ s0 = -1) ∧ ∃ (f : Nat) (W : List VA) (s1 : Nat), pVals T lm (T.length + 1) s 1 = (pVals T lm f s1 s0).bind (fun z => .ok (W ++ z.1, z.2)) ∧ T.length < f + s1 ∧ ROK K m T s1 ∧ (K m 59).toInt = ((v + W.length : Nat) : Int) ∧ 2 * (v + W.length) ≤ s1 ∧ ∀ (i : Nat) (e : VA), W[i]? = some e → RV1 K m (v + i) e))
theorem VSt_r {I K : jx_I} {m : Nat} {T : List Int} {lm v s : Nat} {s0 : Int} (h : VSt I K m T lm v s s0) : s0 = 0 ∨ s0 = 1 ∨ s0 = -1 := by
  rcases h.2 with ⟨h, _⟩ | ⟨h, _⟩
  · exact Or.inl h
  · exact Or.inr h
theorem V306 {I' : jx_I} {m : Nat} {T : List Int} {lm s v : Nat} {a1 : Int} (h : (∃ k x q, pVal T lm s = .ok (k, x, q) ∧ ROK I' m T q ∧ RV1 I' m v (a1, k, x) ∧ (I' m 59).toInt = (v : Int) + 1) ∨ (∃ e, pVal T lm s = .error e ∧ RER I' m T e)) : ∃ y : PX Nat, RST I' m T y ∧ (∀ q, y = .ok q → ∃ k n, pVal T lm s = .ok (k, n, q) ∧ RV1 I' m v (a1, k, n) ∧ (I' m 59).toInt = (v : Int) + 1) ∧ ∀ e, y = .error e → pVal T lm s = .error e := by
  rcases h with ⟨k, x, q, h1, h2, h3, h4⟩ | ⟨e, h1, h2⟩
  · exact ⟨.ok q, h2, fun q2 h => by cases h; exact ⟨k, x, h1, h3, h4⟩, fun e h => by cases h⟩
  · exact ⟨.error e, h2, fun q2 h => (by cases h), fun e h => (by cases h; exact h1)⟩
theorem RV1_f {m : Nat} {ks : List Nat} {n t v i : Nat} {I I' : jx_I} {e : VA} (h : RV1 I m i e) (hf : FP m ks n t v I I') (hi : i < v) : RV1 I' m i e := by
  unfold RV1
  rw [hf.1 (m + 2017 + i) (by omega) (by omega) (by omega) (by omega)]
  exact h
theorem RV1_o {m : Nat} {ks : List Nat} {i : Nat} {I I' : jx_I} {e : VA} (h : RV1 I m i e) (hf : FO m ks I I') : RV1 I' m i e := by
  unfold RV1
  rw [hf.1 (m + 2017 + i) (by omega)]
  exact h
theorem VS_step {I K K1 K2 : jx_I} {m : Nat} {T : List Int} {lm v s f s1 : Nat} {W : List VA} {s0 s2 : Int} {y : PX Nat} (hlm : lm ≤ 8) (h200 : T.length ≤ 200) (hF : FP m [4, 5, 6, 59] 120 120 v I K) (hE : pVals T lm (T.length + 1) s 1 = (pVals T lm f s1 s0).bind (fun z => .ok (W ++ z.1, z.2))) (hf : T.length < f + s1) (hs1 : ROK K m T s1) (hv : 2 * (v + W.length) ≤ s1) (hW : ∀ (i : Nat) (e : VA), W[i]? = some e → RV1 K m (v + i) e) (hF1 : FP m [4, 5, 6, 59] 120 120 (v + W.length) K K1) (hy : ∀ q, y = .ok q → ∃ k n, pVal T lm s1 = .ok (k, n, q) ∧ RV1 K1 m (v + W.length) (s0, k, n) ∧ (K1 m 59).toInt = ((v + W.length : Nat) : Int) + 1) (hye : ∀ e, y = .error e → pVal T lm s1 = .error e) (hF2 : FO m [4] K1 K2) (hc : (s2 = 0 ∧ (∀ q, y = .ok q → tat T q ≠ 43 ∧ tat T q ≠ 45) ∧ RST K2 m T y) ∨ (∃ q, y = .ok q ∧ ((tat T q = 43 ∧ s2 = 1) ∨ (tat T q = 45 ∧ s2 = -1)) ∧ ROK K2 m T (skB T (q + 1)))) : VSt I K2 m T lm v s s2 := by
  obtain ⟨f, rfl⟩ : ∃ g, f = g + 1 := ⟨f - 1, by have := (ROK_s hs1).1; omega⟩
  have hF12 := FP_trans hF1 (FP_o (n := 120) (t := 120) (v := v + W.length) (ks2 := [4, 5, 6, 59]) hF2 (by decide))
  have hF02 : FP m [4, 5, 6, 59] 120 120 v I K2 := FP_trans hF (FP_mono hF12 (fun _ h => h) (Nat.le_refl _) (Nat.le_refl _) (by omega))
  have hW2 : ∀ (e2 : VA), RV1 K1 m (v + W.length) e2 → ∀ (i : Nat) (e : VA), (W ++ [e2])[i]? = some e → RV1 K2 m (v + i) e := by
    intro e2 he2 i e he
    rcases Nat.lt_or_ge i W.length with c | c
    · rw [List.getElem?_append_left c] at he
      exact RV1_f (hW i e he) hF12 (by omega)
    · rw [List.getElem?_append_right c] at he
      obtain ⟨j, hj⟩ : ∃ j, i - W.length = j := ⟨_, rfl⟩
      rw [hj] at he
      cases j with
      | zero =>
        cases he
        rw [show v + i = v + W.length by omega]
        exact RV1_o he2 hF2
      | succ j => cases he
  refine ⟨hF02, ?_⟩
  rcases hc with ⟨h0, hn, hst⟩ | ⟨q, hq, hcc, hok⟩
  · refine Or.inl ⟨h0, ?_⟩
    rw [hE]
    cases y with
    | error e => rw [pVals_e (hye e rfl)]; exact hst
    | ok q =>
      obtain ⟨k, n, h1, h2, h3⟩ := hy q rfl
      have h4 := hn q rfl
      rw [pVals_0 h1 h4.1 h4.2]
      refine ⟨hst, hW2 _ h2, ?_⟩
      rw [hF2.2 59 (by decide), h3]
      show _ = ((v + (W ++ [(s0, k, n)]).length : Nat) : Int)
      rw [List.length_append]
      show _ = ((v + (W.length + 1) : Nat) : Int)
      omega
  · obtain ⟨k, n, h1, h2, h3⟩ := hy q hq
    have h5 := pVal_ok hlm (ROK_s hs1).1 h1
    have h6 := h5.1
    have hql : q + 1 ≤ T.length := by
      have : q < T.length := by
        rcases hcc with h | h
        · exact tat_in h.1 (by decide)
        · exact tat_in h.1 (by decide)
      omega
    have h7 := (skB_le hql).1
    have h8 : q = (k, n, q).2.2 := rfl
    have hgo : ∀ c : Int, (c = 1 ∨ c = -1) → pVals T lm (f + 1) s1 s0 = (pVals T lm f (skB T (q + 1)) c).bind (fun z => .ok ((s0, k, n) :: z.1, z.2)) → (s2 = 0 ∧ RVS K2 m T v (pVals T lm (T.length + 1) s 1)) ∨ ((c = 1 ∨ c = -1) ∧ ∃ (f : Nat) (W : List VA) (s1 : Nat), pVals T lm (T.length + 1) s 1 = (pVals T lm f s1 c).bind (fun z => .ok (W ++ z.1, z.2)) ∧ T.length < f + s1 ∧ ROK K2 m T s1 ∧ (K2 m 59).toInt = ((v + W.length : Nat) : Int) ∧ 2 * (v + W.length) ≤ s1 ∧ ∀ (i : Nat) (e : VA), W[i]? = some e → RV1 K2 m (v + i) e) := by
      intro c hc1 hp
      refine Or.inr ⟨hc1, f, W ++ [(s0, k, n)], skB T (q + 1), ?_, ?_, hok, ?_, ?_, hW2 _ h2⟩
      · rw [hE, hp]
        cases pVals T lm f (skB T (q + 1)) c with
        | error e => rfl
        | ok z => show Except.ok (W ++ (s0, k, n) :: z.1, z.2) = Except.ok (W ++ [(s0, k, n)] ++ z.1, z.2); rw [List.append_assoc]; rfl
      · omega
      · rw [hF2.2 59 (by decide), h3, List.length_append]
        show _ = ((v + (W.length + 1) : Nat) : Int)
        omega
      · rw [List.length_append]
        show 2 * (v + (W.length + 1)) ≤ _
        omega
    rcases hcc with ⟨h43, rfl⟩ | ⟨h45, rfl⟩
    · exact hgo 1 (Or.inl rfl) (pVals_p h1 h43)
    · exact hgo (-1) (Or.inr rfl) (pVals_m h1 h45)
/-- GrievingCamelsModel.values -/
theorem cz_305 {V : jx_V} (hV : V.1.stackTraces = false) {X : jx_X} {R : jx_R} {I : jx_I} {a0 : Nat} {T : List Int} {x : PX Nat} {v lm : Nat}
    (hM : MX X R a0) (hx : RST I a0 T x) (hv : ∀ s, x = .ok s → (I a0 59).toInt = (v : Int) ∧ 2 * v ≤ s) (h200 : T.length ≤ 200) (hlm : (I (a0 + 4) 1).toInt = (lm : Int)) (hl8 : lm ≤ 8)
    {QE : String → jx_I → Prop} : jc V 7 305 (0, 0) [.ref a0] X I R (fun rv I' => rv = none ∧ RVS I' a0 T v (x.bind (fun s => pVals T lm (T.length + 1) s 1)) ∧ FP a0 [4, 5, 6, 59] 120 120 v I I') QE := by
  refine wm_305 hV   (fun J2 J41 hJJ => ?_)
  obtain ⟨hJ2, hJ41⟩ := hJJ
  have L41 : ∀ (n41 : Nat) (s0 : Int) (K : jx_I), n41 = (if s0 = 0 then 0 else 1 + (200 - (K a0 59).toInt).toNat) → (∃ s, x = .ok s ∧ VSt I K a0 T lm v s s0) → J41 s0 K := by
    intro n41
    induction n41 using Nat.strongRecOn with
    | ind n41 ih41 =>
    intro s0 K hn41 hI41
    obtain ⟨s, rfl, hI⟩ := hI41
    have hs0r := VSt_r hI
    refine hJ41 _ _ ?_
    unfold wz_305_41
    refine ⟨by omega, ?_⟩
    refine ⟨fun hq1 => ?_, fun hq1 => ?_⟩
    · obtain ⟨hFK, hR⟩ := hI
      obtain ⟨hs01, f, W, s1, hE, hf, hs1k, h591, hv2, hW⟩ := (hR.resolve_left (fun k => hq1 k.1))
      have hs1b := ROK_s hs1k
      have hlmK : (K (a0 + 4) 1).toInt = (lm : Int) := by rw [hFK.1 _ (by omega) (by omega) (by omega) (by omega)]; exact hlm
      obtain ⟨p1, hp1, hs1, hT1⟩ := id hs1k
      refine ⟨s_M_0 hM, ?_⟩
      refine ⟨fun hq2 => ?_, fun hq2 => ?_⟩
      · exact absurd hT1.1.2.2.1 hq2
      · refine ⟨_, cz_306 (s := s1) (v := v + W.length) hV hM hT1 hp1 hs1 hs01 h591 (by omega) hlmK hl8, ?_⟩
        rintro _ I20 ⟨rfl, hor, hF1⟩
        refine ⟨rfl, ?_⟩
        obtain ⟨y, hy, hyo, hye⟩ := V306 hor
        refine ⟨_, cz_218g hV hM hy (by omega), ?_⟩
        rintro _ I24 ⟨⟨r9, rfl, ho9⟩, hF8⟩
        refine ⟨_, rfl, ?_⟩
        refine ⟨by omega, ?_⟩
        refine ⟨fun hq3 => ?_, fun hq3 => ?_⟩
        · obtain ⟨_, hn43, hy8⟩ := ho9.resolve_left (fun k => by omega)
          refine ⟨_, cz_218g hV hM hy8 (by omega), ?_⟩
          rintro _ I29 ⟨⟨r14, rfl, ho14⟩, hF13⟩
          refine ⟨_, rfl, ?_⟩
          refine ⟨by omega, ?_⟩
          refine ⟨fun hq4 => ?_, fun hq4 => ?_⟩
          · obtain ⟨_, hn45, hy13⟩ := ho14.resolve_left (fun k => by omega)
            have hn : n41 = 1 + (200 - (K a0 59).toInt).toNat := by rw [hn41, if_neg hq1]
            have hm : (if (0 : Int) = 0 then 0 else 1 + (200 - (I29 a0 59).toInt).toNat) < n41 := by rw [if_pos rfl]; omega
            exact ih41 _ (by omega) _ _ rfl (⟨s, rfl, VS_step hl8 h200 hFK hE hf hs1k hv2 hW hF1 hyo hye (FO_trans hF8 hF13) (Or.inl ⟨rfl, fun q h => ⟨(hn43 q h).1, (hn45 q h).1⟩, hy13⟩)⟩)
          · obtain ⟨_, q, hyq, h45, hok⟩ := ho14.resolve_right (fun k => hq4 k.1)
            have hn : n41 = 1 + (200 - (K a0 59).toInt).toNat := by rw [hn41, if_neg hq1]
            obtain ⟨k9, n9, _, _, h599⟩ := hyo q hyq
            have h598 : (I29 a0 59).toInt = ((v + W.length : Nat) : Int) + 1 := by rw [hF13.2 59 (by decide), hF8.2 59 (by decide)]; exact h599
            have hm : (if (-1 : Int) = 0 then 0 else 1 + (200 - (I29 a0 59).toInt).toNat) < n41 := by rw [if_neg (by decide)]; omega
            exact ih41 _ (by omega) _ _ rfl (⟨s, rfl, VS_step hl8 h200 hFK hE hf hs1k hv2 hW hF1 hyo hye (FO_trans hF8 hF13) (Or.inr ⟨q, hyq, Or.inr ⟨h45, rfl⟩, hok⟩)⟩)
        · obtain ⟨_, q, hyq, h43, hok⟩ := ho9.resolve_right (fun k => hq3 k.1)
          have hn : n41 = 1 + (200 - (K a0 59).toInt).toNat := by rw [hn41, if_neg hq1]
          obtain ⟨k9, n9, _, _, h599⟩ := hyo q hyq
          have h598 : (I24 a0 59).toInt = ((v + W.length : Nat) : Int) + 1 := by rw [hF8.2 59 (by decide)]; exact h599
          have hm : (if (1 : Int) = 0 then 0 else 1 + (200 - (I24 a0 59).toInt).toNat) < n41 := by rw [if_neg (by decide)]; omega
          exact ih41 _ (by omega) _ _ rfl (⟨s, rfl, VS_step hl8 h200 hFK hE hf hs1k hv2 hW hF1 hyo hye hF8 (Or.inr ⟨q, hyq, Or.inl ⟨h43, rfl⟩, hok⟩)⟩)
    · obtain ⟨hFK, hR⟩ := hI
      rcases hR with ⟨_, hR⟩ | ⟨h, _⟩
      · exact ⟨rfl, hR, hFK⟩
      · omega
  unfold wz_305
  refine hJ2 _ _ ?_
  unfold wz_305_2
  refine ⟨s_M_0 hM, ?_⟩
  refine ⟨fun hq5 => ?_, fun hq5 => ?_⟩
  · obtain ⟨e, rfl, he⟩ := RST_5n hx hq5
    exact ⟨rfl, he, FP_refl⟩
  · obtain ⟨s1, rfl, hs1k⟩ := RST_5 hx (by omega)
    have hs1b := ROK_s hs1k
    obtain ⟨h591, hv2⟩ := hv s1 rfl
    obtain ⟨p1, hp1, hs1, hT1⟩ := id hs1k
    have hFK : FP a0 [4, 5, 6, 59] 120 120 v I I := FP_refl
    obtain ⟨W, hWe⟩ : ∃ W : List VA, W = [] := ⟨_, rfl⟩
    have hWl : v + W.length = v := by rw [hWe]; rfl
    rw [← hWl] at h591 hv2
    have hE : pVals T lm (T.length + 1) s1 1 = (pVals T lm (T.length + 1) s1 1).bind (fun z => .ok (W ++ z.1, z.2)) := by
      rw [hWe]
      cases pVals T lm (T.length + 1) s1 1 with
      | error e => rfl
      | ok z => rfl
    have hf : T.length < T.length + 1 + s1 := by omega
    have hW : ∀ (i : Nat) (e : VA), W[i]? = some e → RV1 I a0 (v + i) e := fun i e h => by rw [hWe] at h; cases h
    refine ⟨_, cz_306 (s := s1) (v := v + W.length) hV hM hT1 hp1 hs1 (Or.inl rfl) h591 (by omega) hlm hl8, ?_⟩
    rintro _ I4 ⟨rfl, hor, hF1⟩
    refine ⟨rfl, ?_⟩
    obtain ⟨y, hy, hyo, hye⟩ := V306 hor
    refine ⟨_, cz_218g hV hM hy (by omega), ?_⟩
    rintro _ I8 ⟨⟨r9, rfl, ho9⟩, hF8⟩
    refine ⟨_, rfl, ?_⟩
    refine ⟨by omega, ?_⟩
    refine ⟨fun hq6 => ?_, fun hq6 => ?_⟩
    · obtain ⟨_, hn43, hy8⟩ := ho9.resolve_left (fun k => by omega)
      refine ⟨_, cz_218g hV hM hy8 (by omega), ?_⟩
      rintro _ I13 ⟨⟨r14, rfl, ho14⟩, hF13⟩
      refine ⟨_, rfl, ?_⟩
      refine ⟨by omega, ?_⟩
      refine ⟨fun hq7 => ?_, fun hq7 => ?_⟩
      · obtain ⟨_, hn45, hy13⟩ := ho14.resolve_left (fun k => by omega)
        exact L41 _ _ _ rfl (⟨s1, rfl, VS_step hl8 h200 hFK hE hf hs1k hv2 hW hF1 hyo hye (FO_trans hF8 hF13) (Or.inl ⟨rfl, fun q h => ⟨(hn43 q h).1, (hn45 q h).1⟩, hy13⟩)⟩)
      · obtain ⟨_, q, hyq, h45, hok⟩ := ho14.resolve_right (fun k => hq7 k.1)
        exact L41 _ _ _ rfl (⟨s1, rfl, VS_step hl8 h200 hFK hE hf hs1k hv2 hW hF1 hyo hye (FO_trans hF8 hF13) (Or.inr ⟨q, hyq, Or.inr ⟨h45, rfl⟩, hok⟩)⟩)
    · obtain ⟨_, q, hyq, h43, hok⟩ := ho9.resolve_right (fun k => hq6 k.1)
      exact L41 _ _ _ rfl (⟨s1, rfl, VS_step hl8 h200 hFK hE hf hs1k hv2 hW hF1 hyo hye hF8 (Or.inr ⟨q, hyq, Or.inl ⟨h43, rfl⟩, hok⟩)⟩)
