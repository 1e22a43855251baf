/-! ===== the reference: numbers where a fault may be ===== -/
/-- a number read, where a fault may be -/
def NUG (I I' : jx_I) (m : Nat) (T : List Int) (x : PX Nat) (lo hi : Int) (rv : Option Value) : Prop := (∃ r : Int, rv = some (jy r) ∧ (∀ v q, x.bind (pNum T lo hi) = .ok (v, q) → r = v) ∧ ∀ e, x.bind (pNum T lo hi) = .error e → r = 0) ∧ RST I' m T ((x.bind (pNum T lo hi)).bind (fun r => .ok r.2)) ∧ FO m [4, 5, 6] I I'
theorem RNB_g {I I' : jx_I} {m : Nat} {T : List Int} {s : Nat} {lo hi r fa : Int} (hs : s ≤ T.length) (hfa : fa = -1) (h : RNB I' m T s lo hi r fa) (hF : FO m [4, 5, 6] I I') : NUG I I' m T (.ok s) lo hi (some (jy r)) := by
  subst hfa
  have hr0 : ∀ e, pNum T lo hi s = .error e → r = 0 := by
    intro e he
    rcases h with ⟨h1, h2, h3, h4, _⟩ | ⟨_, h, _⟩ | ⟨_, _, h, _⟩
    · rw [pNum_y h1 ⟨h2, h3⟩] at he; cases he
    · exact h
    · exact h
  rcases RNB_p hs h with ⟨q, h1, h2⟩ | ⟨e, h1, h2⟩
  · exact ⟨⟨r, rfl, fun v q2 h => by rw [show (Except.ok s : PX Nat).bind (pNum T lo hi) = _ from h1] at h; cases h; rfl, fun e he => hr0 e he⟩, by rw [show (Except.ok s : PX Nat).bind (pNum T lo hi) = _ from h1]; exact h2, hF⟩
  · exact ⟨⟨r, rfl, fun v q2 h => (by rw [show (Except.ok s : PX Nat).bind (pNum T lo hi) = _ from h1] at h; cases h), fun e he => hr0 e he⟩, by rw [show (Except.ok s : PX Nat).bind (pNum T lo hi) = _ from h1]; exact h2, hF⟩
theorem NUG_r {I I' : jx_I} {m : Nat} {T : List Int} {x : PX Nat} {lo hi r : Int} (hx : RST I m T x) (h : (∀ v q, x.bind (pNum T lo hi) = .ok (v, q) → r = v) ∧ ∀ e, x.bind (pNum T lo hi) = .error e → r = 0) (hlo : 0 ≤ lo) (hhi : hi ≤ 999) : 0 ≤ r ∧ r ≤ 999 := by
  cases hy : x.bind (pNum T lo hi) with
  | error e => have := h.2 e hy; omega
  | ok w =>
    have h1 := h.1 w.1 w.2 hy
    obtain ⟨s, hs, h2⟩ := px_ok hy
    subst hs
    have h3 := pNum_ok (ROK_s hx).1 h2
    omega
/-- GrievingCamelsModel.number -/
theorem cz_210g {V : jx_V} (hV : V.1.stackTraces = false) {X : jx_X} {R : jx_R} {I : jx_I} {a0 : Nat} {a1 : Int} {a2 : Int} {T : List Int} {x : PX Nat}
    (hM : MX X R a0) (hx : RST I a0 T x) (r_a1 : -2147483648 ≤ a1 ∧ a1 < 2147483648) (r_a2 : -2147483648 ≤ a2 ∧ a2 < 2147483648)
    {QE : String → jx_I → Prop} : jc V 3 210 (0, 0) [.ref a0, jy a1, jy a2] X I R (fun rv I' => NUG I I' a0 T x a1 a2 rv) QE := by
  obtain ⟨s, hsk, hxs⟩ : ∃ s, s ≤ T.length ∧ ∀ s2, x = .ok s2 → s2 = s := by
    cases x with
    | ok s => exact ⟨s, (ROK_s hx).1, fun s2 h => by cases h; rfl⟩
    | error e => exact ⟨0, Nat.zero_le _, fun s2 h => by cases h⟩
  obtain ⟨fa, hfa⟩ : ∃ fa : Int, fa = -1 := ⟨_, rfl⟩
  refine wm_210 hV (by omega) (by omega)  (fun J44 J91 J122 hJJ => ?_)
  obtain ⟨hJ44, hJ91, hJ122⟩ := hJJ
  have L44 : ∀ (n44 : Nat) (l3 : Int) (l4 : Int) (K : jx_I), n44 = ((T.length : Int) - (K a0 4).toInt).toNat → (x = .ok s ∧ ∃ (q : Nat) (k2 f2 : Int), T.length ≤ 600 ∧ l3 = (s : Int) ∧ (0 ≤ l4 ∧ l4 ≤ 100000) ∧ q ≤ T.length ∧ q + (dig T q).length = s + (dig T s).length ∧ dval (dig T q) l4 = nval T s ∧ ((dig T s ≠ [] ∧ k2 = 0 ∧ f2 = fa) ∨ (dig T s = [] ∧ k2 = 1 ∧ f2 = (s : Int))) ∧ RTX K a0 T (q : Int) k2 f2 ∧ FO a0 [4, 5, 6] I K) → J44 l3 l4 K := by
    intro n44
    induction n44 using Nat.strongRecOn with
    | ind n44 ih44 =>
    intro l3 l4 K hn44 hI44
    obtain ⟨hxo, q, k2, f2, h6, rfl, hl4, hq, hln, hval, hcs, hTK, hF⟩ := hI44
    have h4 := hTK.1.2.1
    have hrk := RTX_r hTK q
    have h5k := hTK.1.2.2.1
    refine hJ44 _ _ _ ?_
    unfold wz_210_44
    refine ⟨s_M_0 hM, ?_⟩
    refine ⟨_, cz_206 (i := q) hV hM hTK h4 (by omega), ?_⟩
    rintro _ I45 ⟨rfl, e9⟩; replace e9 := e9.symm; subst e9
    refine ⟨_, rfl, ?_⟩
    refine ⟨_, cz_209 hV hrk, ?_⟩
    rintro _ I49 ⟨rfl, e9⟩; replace e9 := e9.symm; subst e9
    refine ⟨_, rfl, ?_⟩
    refine ⟨by omega, ?_⟩
    refine ⟨fun hq1 => ?_, fun hq1 => ?_⟩
    · have cd := bi_f hq1
      refine ⟨_, cz_203 hV (by omega) (by omega) (by omega), ?_⟩
      rintro _ I54 ⟨rfl, e9⟩; replace e9 := e9.symm; subst e9
      refine ⟨_, rfl, ?_⟩
      refine ⟨by omega, ?_⟩
      refine ⟨fun hq2 => ?_, fun hq2 => ?_⟩
      · have cin := bi_t hq2
        refine ⟨fun hq3 => ?_, fun hq3 => ?_⟩
        · subst hxo
          rcases hcs with ⟨hd, rfl, rfl⟩ | ⟨hd, rfl, rfl⟩
          · exact absurd h5k hq3
          · exact RNB_g hsk hfa (Or.inr (Or.inl ⟨hd, rfl, q, hTK⟩)) hF
        · subst hxo
          rcases hcs with ⟨hd, rfl, rfl⟩ | ⟨hd, rfl, rfl⟩
          · rw [dig_0 cd] at hval hln
            have hv : l4 = nval T s := hval
            rw [List.length_nil] at hln
            exact RNB_g hsk hfa (Or.inl ⟨hd, by omega, by omega, hv, by rw [show s + (dig T s).length = q by omega]; exact hTK⟩) hF
          · exact absurd h5k (by omega)
      · have cin := bi_f hq2
        refine ⟨_, cz_208 hV hM hTK (by omega) (by omega), ?_⟩
        rintro _ I59 ⟨rfl, hT59, hF59⟩
        refine ⟨rfl, ?_⟩
        refine hJ122 _ _ ?_
        unfold wz_210_122
        refine ⟨s_M_0 hM, ?_⟩
        refine ⟨fun hq4 => ?_, fun hq4 => ?_⟩
        · subst hxo
          rcases hcs with ⟨hd, rfl, rfl⟩ | ⟨hd, rfl, rfl⟩
          · rw [dig_0 cd] at hval
            have hv : l4 = nval T s := hval
            rw [if_pos rfl, if_pos rfl] at hT59
            exact RNB_g hsk hfa (Or.inr (Or.inr ⟨hd, by omega, rfl, q, hT59⟩)) (FO_trans hF (FO_mono hF59 (by decide)))
          · rw [if_neg (by decide), if_neg (by decide)] at hT59
            exact RNB_g hsk hfa (Or.inr (Or.inl ⟨hd, rfl, q, hT59⟩)) (FO_trans hF (FO_mono hF59 (by decide)))
        · exfalso
          have h9 := hT59.1.2.2.1
          rcases hcs with ⟨hd, rfl, rfl⟩ | ⟨hd, rfl, rfl⟩
          · rw [if_pos rfl] at h9; omega
          · rw [if_neg (by decide)] at h9; omega
    · have cd := bi_t hq1
      have hdn := dig_n cd
      have hql : q < T.length := by
        rcases Nat.lt_or_ge q T.length with e | e
        · exact e
        · have h9 := cd.1
          rw [tat_ge e] at h9
          exact absurd h9 (by decide)
      have hT9 : RTX (jx_u K a0 4 (Int32.ofInt ((K a0 4).toInt + 1))) a0 T ((q + 1 : Nat) : Int) k2 f2 := by rw [h4]; exact RTX_4 hTK (by omega)
      have hx9 := hT9.1.2.1
      refine ⟨_, cz_206 (i := q) hV hM hTK h4 (by omega), ?_⟩
      rintro _ I63 ⟨rfl, e9⟩; replace e9 := e9.symm; subst e9
      refine ⟨_, rfl, ?_⟩
      refine ⟨by omega, ?_⟩
      refine ⟨fun hq5 => ?_, fun hq5 => ?_⟩
      · refine hJ91 _ _ _ ?_
        unfold wz_210_91
        refine ⟨s_M_0 hM, ?_⟩
        intro I67 e_I67; subst e_I67
        exact ih44 _ (by omega) _ _ _ rfl (⟨hxo, q + 1, k2, f2, h6, rfl, by omega, by omega, by omega, by rw [← hval, dval_1 cd, show min (l4 * 10 + tat T q - 48) 100000 = 10 * l4 + tat T q - 48 by omega], hcs, hT9, FO_f hF (by decide)⟩)
      · refine hJ91 _ _ _ ?_
        unfold wz_210_91
        refine ⟨s_M_0 hM, ?_⟩
        intro I67 e_I67; subst e_I67
        exact ih44 _ (by omega) _ _ _ rfl (⟨hxo, q + 1, k2, f2, h6, rfl, by omega, by omega, by omega, by rw [← hval, dval_1 cd, show min (l4 * 10 + tat T q - 48) 100000 = 100000 by omega], hcs, hT9, FO_f hF (by decide)⟩)
  unfold wz_210
  refine ⟨s_M_0 hM, ?_⟩
  refine ⟨fun hq6 => ?_, fun hq6 => ?_⟩
  · obtain ⟨s9, rfl, hok⟩ := RST_5 hx hq6
    have hss9 := (hxs s9 rfl).symm
    subst hss9
    obtain ⟨p, hp, hs, hT⟩ := hok
    rw [← hfa] at hT
    have h6 := hT.2.1
    have h5 := hT.1.2.2.1
    have hrg := RTX_r hT s
    refine ⟨_, cz_207 hV hM hT hp, ?_⟩
    rintro _ I4 ⟨rfl, hT4, hF4⟩
    refine ⟨rfl, ?_⟩
    rw [hs] at hT4
    have h44 := hT4.1.2.1
    simp only [-eq_self, h44]
    refine ⟨_, cz_206 (i := s) hV hM hT4 (by first | rfl | exact h44) (by omega), ?_⟩
    rintro _ I8 ⟨rfl, e9⟩; replace e9 := e9.symm; subst e9
    refine ⟨_, rfl, ?_⟩
    refine ⟨_, cz_209 hV hrg, ?_⟩
    rintro _ I12 ⟨rfl, e9⟩; replace e9 := e9.symm; subst e9
    refine ⟨_, rfl, ?_⟩
    refine ⟨by omega, ?_⟩
    refine ⟨fun hq7 => ?_, fun hq7 => ?_⟩
    · have cc := bi_t hq7
      refine ⟨_, cz_206 (i := s) hV hM hT4 (by first | rfl | exact h44) (by omega), ?_⟩
      rintro _ I17 ⟨rfl, e9⟩; replace e9 := e9.symm; subst e9
      refine ⟨_, rfl, ?_⟩
      refine ⟨_, cz_209 hV hrg, ?_⟩
      rintro _ I21 ⟨rfl, e9⟩; replace e9 := e9.symm; subst e9
      refine ⟨_, rfl, ?_⟩
      refine ⟨by omega, ?_⟩
      refine ⟨fun hq8 => ?_, fun hq8 => ?_⟩
      · have cc2 := bi_f hq8
        exact absurd cc cc2
      · have cc2 := bi_t hq8
        have hdn := dig_n cc
        have hql : s < T.length := by
          rcases Nat.lt_or_ge s T.length with e | e
          · exact e
          · have h9 := cc.1
            rw [tat_ge e] at h9
            exact absurd h9 (by decide)
        have hT9 : RTX (jx_u I4 a0 4 (Int32.ofInt ((I4 a0 4).toInt + 1))) a0 T ((s + 1 : Nat) : Int) 0 fa := by rw [h44]; exact RTX_4 hT4 (by omega)
        refine ⟨_, cz_206 (i := s) hV hM hT4 (by first | rfl | exact h44) (by omega), ?_⟩
        rintro _ I35 ⟨rfl, e9⟩; replace e9 := e9.symm; subst e9
        refine ⟨_, rfl, ?_⟩
        refine ⟨by omega, ?_⟩
        refine ⟨fun hq9 => ?_, fun hq9 => ?_⟩
        · refine hJ91 _ _ _ ?_
          unfold wz_210_91
          refine ⟨s_M_0 hM, ?_⟩
          intro I67 e_I67; subst e_I67
          exact L44 _ _ _ _ rfl (⟨rfl, s + 1, 0, fa, h6, rfl, by omega, by omega, by omega, by unfold nval; rw [dval_1 cc, show min (0 * 10 + tat T s - 48) 100000 = 10 * 0 + tat T s - 48 by omega], Or.inl ⟨hdn.1, rfl, rfl⟩, hT9, FO_f (FO_mono hF4 (by decide)) (by decide)⟩)
        · refine hJ91 _ _ _ ?_
          unfold wz_210_91
          refine ⟨s_M_0 hM, ?_⟩
          intro I67 e_I67; subst e_I67
          exact L44 _ _ _ _ rfl (⟨rfl, s + 1, 0, fa, h6, rfl, by omega, by omega, by omega, by unfold nval; rw [dval_1 cc, show min (0 * 10 + tat T s - 48) 100000 = 100000 by omega], Or.inl ⟨hdn.1, rfl, rfl⟩, hT9, FO_f (FO_mono hF4 (by decide)) (by decide)⟩)
    · have cc := bi_f hq7
      refine ⟨_, cz_208 hV hM hT4 (by omega) (by omega), ?_⟩
      rintro _ I40 ⟨rfl, hT40, hF40⟩
      refine ⟨rfl, ?_⟩
      rw [if_pos rfl, if_pos rfl, h44] at hT40
      exact L44 _ _ _ _ rfl (⟨rfl, s, 1, (s : Int), h6, rfl, by omega, by omega, rfl, rfl, Or.inr ⟨dig_0 cc, rfl, rfl⟩, hT40, FO_trans (FO_mono hF4 (by decide)) (FO_mono hF40 (by decide))⟩)
  · obtain ⟨e, rfl, he⟩ := RST_5n hx hq6
    exact ⟨⟨0, rfl, fun v q h => (by cases h), fun _ _ => rfl⟩, he, FO_refl⟩
