/-! ===== the reference reads a law ===== -/
/-- GrievingCamelsModel.one -/
theorem cz_227s {V : jx_V} (hV : V.1.stackTraces = false) {d : Nat} {X : jx_X} {R : jx_R} {I : jx_I} {a0 : Nat} {T : List Int} {x : PX Nat} {L : List Int} {y : Nat}
    (hM : MX X R a0) (hx : RST I a0 T x) (hc : ∀ s, x = .ok s → RLW I a0 L ∧ L.length ≤ s ∧ (I a0 25).toInt = ((6 - y : Nat) : Int)) (h600 : T.length ≤ 600) (hy : y ≤ 6) (hd : 6 + 3 * y ≤ d) (ih : ∀ z, y = z + 1 → G225 V X R a0 T z)
    {QE : String → jx_I → Prop} : jc V d 227 (0, 0) [.ref a0] X I R (fun rv I' => rv = none ∧ REL I' a0 T (6 - y) L (x.bind (lUnit T (lRec T y))) ∧ FLa a0 I I') QE := by
  refine wm_227 hV   (fun J43 J201 hJJ => ?_)
  obtain ⟨hJ43, hJ201⟩ := hJJ
  have L201 : ∀ (n201 : Nat) (s0 : Int) (K : jx_I), n201 = 0 → (∃ s q : Nat, x = .ok s ∧ tat T s ≠ 40 ∧ s0 = kul (wrd T s) ∧ q ≤ T.length ∧ RTX K a0 T (q : Int) 0 (-1) ∧ skB T q = (if kul (wrd T s) = -1 then s else skB T (s + (wrd T s).length)) ∧ FO a0 [4] I K) → J201 s0 K := by
    intro n201
    induction n201 using Nat.strongRecOn with
    | ind n201 ih201 =>
    intro s0 K hn201 hI201
    obtain ⟨s, q, rfl, h40, rfl, hq0, hTK, hsq, hFK⟩ := hI201
    have hkr := kul_r (wrd T s)
    obtain ⟨hR, hLs, h25⟩ := hc s rfl
    have hRK := RLW_o hR hFK (by decide)
    have h25K : (K a0 25).toInt = ((6 - y : Nat) : Int) := by rw [hFK.2 25 (by decide)]; exact h25
    have hsl := (ROK_s (show ROK I a0 T s from hx)).1
    refine hJ201 _ _ ?_
    unfold wz_227_201
    refine ⟨by omega, ?_⟩
    refine ⟨fun hq1 => ?_, fun hq1 => ?_⟩
    · have hkv : kul (wrd T s) = -1 := hq1
      refine ⟨s_M_0 hM, ?_⟩
      refine ⟨by omega, _, cz_210 hV hM hTK hq0 rfl (by omega) (by omega), ?_⟩
      rintro _ I82 ⟨⟨r9, rfl, hR82⟩, hA82⟩
      refine ⟨_, rfl, ?_⟩
      rw [hsq, if_pos hkv] at hR82
      have hr9 : 0 ≤ r9 ∧ r9 ≤ 99 := by
        rcases hR82 with ⟨_, a, b, c, _⟩ | ⟨_, a, _⟩ | ⟨_, _, a, _⟩ <;> omega
      have hx82 : RST I82 a0 T ((pNum T 0 99 s).bind (fun r => .ok r.2)) := by
        rcases RNB_p hsl hR82 with ⟨q2, hn, hok⟩ | ⟨e, hn, her⟩
        · rw [hn]; exact hok
        · rw [hn]; exact her
      have hRL82 := RLW_o hRK hA82 (by decide)
      refine ⟨by omega, _, cz_224 (c := r9) hV hM hx82 (fun s2 _ => ⟨hRL82, by omega⟩) ⟨fun _ => ⟨rfl, rfl⟩, fun h => by omega, fun h => by omega⟩ (by omega) (by omega), ?_⟩
      rintro _ I87 ⟨rfl, hx87, hL87, hF87⟩
      refine ⟨rfl, ?_⟩
      refine ⟨rfl, ?_, FLa_trans (FLa_o hFK (by decide)) (FLa_trans (FLa_o hA82 (by decide)) hF87)⟩
      show REL I87 a0 T (6 - y) L (lUnit T (lRec T y) s)
      rw [lUnit_n h40 hkv]
      rcases RNB_p hsl hR82 with ⟨q2, hn, hok⟩ | ⟨e, hn, her⟩
      · rw [hn] at hx87 hL87 ⊢
        obtain ⟨g1, g2⟩ := hL87 q2 rfl
        exact ⟨hx87, g1, by rw [g2, hA82.2 25 (by decide)]; exact h25K⟩
      · rw [hn] at hx87 ⊢
        exact hx87
    · have hkv : kul (wrd T s) ≠ -1 := hq1
      rw [if_neg hkv] at hsq
      refine ⟨s_M_0 hM, ?_⟩
      refine ⟨by omega, _, cz_224 (x := .ok (skB T q)) (L := L) (c := 100 + kul (wrd T s)) hV hM ⟨q, hq0, rfl, hTK⟩ (fun s2 _ => ⟨hRK, by omega⟩) ⟨fun h => by omega, fun _ _ => ⟨rfl, by omega⟩, fun h => by omega⟩ (by omega) (by omega), ?_⟩
      rintro _ I93 ⟨rfl, hx93, hL93, hF93⟩
      refine ⟨rfl, ?_⟩
      refine ⟨rfl, ?_, FLa_trans (FLa_o hFK (by decide)) hF93⟩
      show REL I93 a0 T (6 - y) L (lUnit T (lRec T y) s)
      rw [lUnit_w h40 hkv]
      obtain ⟨g1, g2⟩ := hL93 _ rfl
      rw [hsq] at hx93
      exact ⟨hx93, g1, by rw [g2]; exact h25K⟩
  unfold wz_227
  refine ⟨s_M_0 hM, ?_⟩
  refine ⟨fun hq2 => ?_, fun hq2 => ?_⟩
  · obtain ⟨s, rfl, hok⟩ := RST_5 hx hq2
    obtain ⟨hR, hLs, h25⟩ := hc s rfl
    obtain ⟨p, hp, hs, hT⟩ := id hok
    have hsl := (ROK_s hok).1
    have hss := (ROK_s hok).2
    have hwl := wrd_le hsl
    have hrg := RTX_r hT s
    have h6 := hT.2.1
    refine ⟨by omega, _, cz_207 hV hM hT hp, ?_⟩
    rintro _ I5 ⟨rfl, hT5, hF5⟩
    refine ⟨rfl, ?_⟩
    rw [hs] at hT5
    have h54 := hT5.1.2.1
    have h55 := hT5.1.2.2.1
    have h525 : (I5 a0 25).toInt = ((6 - y : Nat) : Int) := by rw [hF5.2 25 (by decide)]; exact h25
    simp only [-eq_self, h54]
    refine ⟨by omega, _, cz_206 (i := s) hV hM hT5 rfl (by omega), ?_⟩
    rintro _ I10 ⟨rfl, e9⟩; replace e9 := e9.symm; subst e9
    refine ⟨_, rfl, ?_⟩
    refine ⟨by omega, ?_⟩
    refine ⟨fun hq3 => ?_, fun hq3 => ?_⟩
    · have h40 : tat T s ≠ 40 := hq3
      refine ⟨by omega, _, cz_216 (ws := sbi 8) hV hM hT5 hsl hss rfl (by decide +kernel), ?_⟩
      rintro _ I16 ⟨⟨r90, rfl, ho16⟩, hF16⟩
      refine ⟨_, rfl, ?_⟩
      have hFx16 := FO_trans hF5 hF16
      refine ⟨by omega, ?_⟩
      refine ⟨fun hq4 => ?_, fun hq4 => ?_⟩
      · have h9 := ho16.resolve_left (fun k => by omega)
        obtain ⟨_, c8, hT16⟩ := h9
        refine ⟨by omega, _, cz_216 (ws := sbi 9) hV hM hT16 hsl hss rfl (by decide +kernel), ?_⟩
        rintro _ I22 ⟨⟨r91, rfl, ho22⟩, hF22⟩
        refine ⟨_, rfl, ?_⟩
        have hFx22 := FO_trans hFx16 hF22
        refine ⟨by omega, ?_⟩
        refine ⟨fun hq5 => ?_, fun hq5 => ?_⟩
        · have h9 := ho22.resolve_left (fun k => by omega)
          obtain ⟨_, c9, hT22⟩ := h9
          refine ⟨by omega, _, cz_216 (ws := sbi 10) hV hM hT22 hsl hss rfl (by decide +kernel), ?_⟩
          rintro _ I28 ⟨⟨r92, rfl, ho28⟩, hF28⟩
          refine ⟨_, rfl, ?_⟩
          have hFx28 := FO_trans hFx22 hF28
          refine ⟨by omega, ?_⟩
          refine ⟨fun hq6 => ?_, fun hq6 => ?_⟩
          · have h9 := ho28.resolve_left (fun k => by omega)
            obtain ⟨_, c10, hT28⟩ := h9
            refine ⟨by omega, _, cz_216 (ws := sbi 11) hV hM hT28 hsl hss rfl (by decide +kernel), ?_⟩
            rintro _ I34 ⟨⟨r93, rfl, ho34⟩, hF34⟩
            refine ⟨_, rfl, ?_⟩
            have hFx34 := FO_trans hFx28 hF34
            refine ⟨by omega, ?_⟩
            refine ⟨fun hq7 => ?_, fun hq7 => ?_⟩
            · have h9 := ho34.resolve_left (fun k => by omega)
              obtain ⟨_, c11, hT34⟩ := h9
              refine ⟨by omega, _, cz_216 (ws := sbi 12) hV hM hT34 hsl hss rfl (by decide +kernel), ?_⟩
              rintro _ I40 ⟨⟨r94, rfl, ho40⟩, hF40⟩
              refine ⟨_, rfl, ?_⟩
              have hFx40 := FO_trans hFx34 hF40
              refine ⟨by omega, ?_⟩
              refine ⟨fun hq8 => ?_, fun hq8 => ?_⟩
              · have h9 := ho40.resolve_left (fun k => by omega)
                obtain ⟨_, c12, hT40⟩ := h9
                have hkv : kul (wrd T s) = -1 := by unfold kul; rw [if_neg c8, if_neg c9, if_neg c10, if_neg c11, if_neg c12]
                exact L201 _ _ _ rfl (⟨s, s, rfl, h40, by rw [hkv], hsl, hT40, by rw [if_pos hkv]; exact hss, hFx40⟩)
              · have h9 := ho40.resolve_right (fun k => hq8 k.1)
                obtain ⟨_, c12, hT40⟩ := h9
                have hkv : kul (wrd T s) = 4 := by unfold kul; rw [if_neg c8, if_neg c9, if_neg c10, if_neg c11, if_pos c12]
                exact L201 _ _ _ rfl (⟨s, s + (wrd T s).length, rfl, h40, by rw [hkv], hwl, by rw [c12]; exact hT40, by rw [if_neg (by omega)], hFx40⟩)
            · have h9 := ho34.resolve_right (fun k => hq7 k.1)
              obtain ⟨_, c11, hT34⟩ := h9
              have hkv : kul (wrd T s) = 3 := by unfold kul; rw [if_neg c8, if_neg c9, if_neg c10, if_pos c11]
              exact L201 _ _ _ rfl (⟨s, s + (wrd T s).length, rfl, h40, by rw [hkv], hwl, by rw [c11]; exact hT34, by rw [if_neg (by omega)], hFx34⟩)
          · have h9 := ho28.resolve_right (fun k => hq6 k.1)
            obtain ⟨_, c10, hT28⟩ := h9
            have hkv : kul (wrd T s) = 2 := by unfold kul; rw [if_neg c8, if_neg c9, if_pos c10]
            exact L201 _ _ _ rfl (⟨s, s + (wrd T s).length, rfl, h40, by rw [hkv], hwl, by rw [c10]; exact hT28, by rw [if_neg (by omega)], hFx28⟩)
        · have h9 := ho22.resolve_right (fun k => hq5 k.1)
          obtain ⟨_, c9, hT22⟩ := h9
          have hkv : kul (wrd T s) = 1 := by unfold kul; rw [if_neg c8, if_pos c9]
          exact L201 _ _ _ rfl (⟨s, s + (wrd T s).length, rfl, h40, by rw [hkv], hwl, by rw [c9]; exact hT22, by rw [if_neg (by omega)], hFx22⟩)
      · have h9 := ho16.resolve_right (fun k => hq4 k.1)
        obtain ⟨_, c8, hT16⟩ := h9
        have hkv : kul (wrd T s) = 0 := by unfold kul; rw [if_pos c8]
        exact L201 _ _ _ rfl (⟨s, s + (wrd T s).length, rfl, h40, by rw [hkv], hwl, by rw [c8]; exact hT16, by rw [if_neg (by omega)], hFx16⟩)
    · have h40 : tat T s = 40 := hq3
      have hl40 := tat_in h40 (by decide)
      have hs1 := AT_s (T := T) (p := s + 1) (by omega)
      have hs12 := hs1.2
      simp only [-eq_self, h54, h525]
      refine ⟨fun hq9 => ?_, fun hq9 => ?_⟩
      · obtain ⟨z, rfl⟩ : ∃ z, y = z + 1 := ⟨y - 1, by omega⟩
        refine ⟨fun hq10 => ?_, fun hq10 => ?_⟩
        · intro I43 e_I43; subst e_I43
          have h434 : (jx_u I5 a0 25 (Int32.ofInt (((6 - (z + 1) : Nat) : Int) + 1)) a0 4).toInt = (s : Int) := by rw [jx_u_k _ _ _ _ (by decide)]; exact h54
          simp only [-eq_self, h434]
          intro I44 e_I44; subst e_I44
          have hT44 : RTX (jx_u (jx_u I5 a0 25 (Int32.ofInt (((6 - (z + 1) : Nat) : Int) + 1))) a0 4 (Int32.ofInt ((s : Int) + 1))) a0 T ((s + 1 : Nat) : Int) 0 (-1) := RTX_4 (v := ((s + 1 : Nat) : Int)) (RTX_k hT5 (by decide)) (by omega)
          have hR44 : RLW (jx_u (jx_u I5 a0 25 (Int32.ofInt (((6 - (z + 1) : Nat) : Int) + 1))) a0 4 (Int32.ofInt ((s : Int) + 1))) a0 L := RLW_k (RLW_k (RLW_o hR hF5 (by decide)) (by decide)) (by decide)
          have h4425 : (jx_u (jx_u I5 a0 25 (Int32.ofInt (((6 - (z + 1) : Nat) : Int) + 1))) a0 4 (Int32.ofInt ((s : Int) + 1)) a0 25).toInt = ((6 - z : Nat) : Int) := by rw [jx_u_k _ _ _ _ (by decide), jx_u_s, jy_toInt (by omega)]; omega
          have hF44 : FLa a0 I (jx_u (jx_u I5 a0 25 (Int32.ofInt (((6 - (z + 1) : Nat) : Int) + 1))) a0 4 (Int32.ofInt ((s : Int) + 1))) := FLa_f (FLa_f (FLa_o hF5 (by decide)) (by decide)) (by decide)
          generalize jx_u (jx_u I5 a0 25 (Int32.ofInt (((6 - (z + 1) : Nat) : Int) + 1))) a0 4 (Int32.ofInt ((s : Int) + 1)) = I44 at *
          refine ⟨_, by omega, _, ih z rfl (d - 1) (.ok (skB T (s + 1))) L _ _ ⟨s + 1, by omega, rfl, hT44⟩ (fun s2 h2 => by cases h2; exact ⟨hR44, by omega, h4425⟩) (by omega), ?_⟩
          rintro _ I49 ⟨rfl, hE49, hF49⟩
          refine ⟨rfl, ?_⟩
          refine ⟨by omega, _, cz_217g hV hM (REL_r hE49) (by omega), ?_⟩
          rintro _ I54 ⟨rfl, hS54, hF54⟩
          refine ⟨rfl, ?_⟩
          intro I56 e_I56; subst e_I56
          refine ⟨rfl, ?_, FLa_f (FLa_trans hF44 (FLa_trans hF49 (FLa_o hF54 (by decide)))) (by decide)⟩
          show REL _ a0 T (6 - (z + 1)) L (lUnit T (lRec T (z + 1)) s)
          rw [lUnit_p h40]
          show REL _ a0 T (6 - (z + 1)) L ((lS T z (skB T (s + 1))).bind (fun z => (pSgn T 41 z.2).bind (fun q => .ok (z.1, q))))
          replace hE49 : REL I49 a0 T (6 - z) L (lS T z (skB T (s + 1))) := hE49
          replace hS54 : RST I54 a0 T (((lS T z (skB T (s + 1))).bind (fun r => .ok r.2)).bind (pSgn T 41)) := hS54
          cases hl : lS T z (skB T (s + 1)) with
          | error e => rw [hl] at hS54; exact RER_k (show RER I54 a0 T e from hS54) (by decide)
          | ok w =>
            rw [hl] at hS54 hE49
            replace hS54 : RST I54 a0 T (pSgn T 41 w.2) := hS54
            show REL _ a0 T (6 - (z + 1)) L ((pSgn T 41 w.2).bind (fun q => .ok (w.1, q)))
            cases hp : pSgn T 41 w.2 with
            | error e => rw [hp] at hS54; exact RER_k (show RER I54 a0 T e from hS54) (by decide)
            | ok q =>
              rw [hp] at hS54
              have h5425 : (I54 a0 25).toInt = ((6 - z : Nat) : Int) := by rw [hF54.2 25 (by decide)]; exact hE49.2.2
              exact ⟨ROK_k (show ROK I54 a0 T q from hS54) (by decide), RLW_k (RLW_o hE49.2.1 hF54 (by decide)) (by decide), by rw [jx_u_s, h5425, jy_toInt (by omega)]; omega⟩
        · exact absurd h55 hq10
      · refine ⟨by omega, _, cz_208 hV hM hT5 (by omega) (by omega), ?_⟩
        rintro _ I60 ⟨rfl, hT60, hF60⟩
        refine ⟨rfl, ?_⟩
        refine hJ43 _ ?_
        unfold wz_227_43
        refine ⟨s_M_0 hM, ?_⟩
        refine ⟨fun hq11 => ?_, fun hq11 => ?_⟩
        · exfalso
          rw [if_pos rfl] at hT60
          have := hT60.1.2.2.1
          omega
        · rw [if_pos rfl, if_pos rfl] at hT60
          have hy0 : y = 0 := by omega
          subst hy0
          refine ⟨rfl, ?_, FLa_trans (FLa_o hF5 (by decide)) (FLa_o hF60 (by decide))⟩
          show REL _ a0 T (6 - 0) L (lUnit T (lRec T 0) s)
          rw [lUnit_p h40]
          exact ⟨show (1 : Int) ≤ 3 by decide, show (3 : Int) ≤ 3 by decide, s, hT60⟩
  · obtain ⟨e, rfl, he⟩ := RST_5n hx hq2
    exact ⟨rfl, he, FLa_refl⟩
