/-! ===== the class reads a land, 4 ===== -/
/-- GrievingCamels$Land.forget -/
theorem cz_24 {V : jx_V} (hV : V.1.stackTraces = false) {X : jx_X} {R : jx_R} {I : jx_I} {a0 : Nat} 
    (hl : BX X R a0 TLand)
    {QE : String → jx_I → Prop} : jc V 3 24 (0, 0) [.ref a0] X I R (fun rv I' => rv = none ∧ CLB I' a0 L00 ∧ FR a0 (a0 + 9) I I') QE := by
  refine wm_24 hV   (fun J19 J43 J64 hJJ => ?_)
  obtain ⟨hJ19, hJ43, hJ64⟩ := hJJ
  unfold wz_24
  refine ⟨s_Land_0 hl, ?_⟩
  intro I2 e_I2; subst e_I2
  intro I3 e_I3; subst e_I3
  have h37 : (jx_u (jx_u I a0 7 (Int32.ofInt 0)) a0 8 (Int32.ofInt 0) a0 7).toInt = 0 ∧ (jx_u (jx_u I a0 7 (Int32.ofInt 0)) a0 8 (Int32.ofInt 0) a0 8).toInt = 0 := ⟨by rw [jx_u_k _ _ _ _ (by decide), jx_u_s]; rfl, by rw [jx_u_s]; rfl⟩
  have h3q : ∀ q, q ≠ a0 → jx_u (jx_u I a0 7 (Int32.ofInt 0)) a0 8 (Int32.ofInt 0) q = I q := fun q h => by rw [jx_u_r _ _ _ h, jx_u_r _ _ _ h]
  generalize jx_u (jx_u I a0 7 (Int32.ofInt 0)) a0 8 (Int32.ofInt 0) = I3 at *
  refine ⟨_, r_Land_0_6 hl, s_Law_0 (b_Land_7 hl), ?_⟩
  refine ⟨_, cz_44 hV (b_Land_7 hl), ?_⟩
  rintro _ I9 ⟨rfl, hL9, hF9⟩
  refine ⟨rfl, ?_⟩
  have L19 : ∀ (n19 : Nat) (l1 : Int) (K : jx_I), n19 = (100 - l1).toNat → (∃ i : Nat, l1 = (i : Int) ∧ i ≤ 100 ∧ (∀ q, q ≠ a0 + 2 → K q = I9 q) ∧ ∀ k, k < i → (K (a0 + 2) k).toInt = 0) → J19 l1 K := by
    intro n19
    induction n19 using Nat.strongRecOn with
    | ind n19 ih19 =>
    intro l1 K hn19 hI19
    obtain ⟨i, rfl, hi, hfK, hzK⟩ := hI19
    refine hJ19 _ _ ?_
    unfold wz_24_19
    refine ⟨s_Land_0 hl, _, r_Land_0_1 hl, _, ⟨s_Land_2 hl, by decide⟩, by omega, ?_⟩
    refine ⟨fun hq1 => ?_, fun hq1 => ?_⟩
    · have L43 : ∀ (n43 : Nat) (l1 : Int) (K2 : jx_I), n43 = (80 - l1).toNat → (∃ i : Nat, l1 = (i : Int) ∧ i ≤ 80 ∧ (∀ q, q ≠ a0 + 6 → K2 q = K q) ∧ ∀ k, k < i → (K2 (a0 + 6) k).toInt = 0) → J43 l1 K2 := by
        intro n43
        induction n43 using Nat.strongRecOn with
        | ind n43 ih43 =>
        intro l1 K2 hn43 hI43
        obtain ⟨i, rfl, hi, hfK2, hzK2⟩ := hI43
        refine hJ43 _ _ ?_
        unfold wz_24_43
        refine ⟨by omega, ?_⟩
        refine ⟨fun hq2 => ?_, fun hq2 => ?_⟩
        · have L64 : ∀ (n64 : Nat) (l1 : Int) (K3 : jx_I), n64 = (8 - l1).toNat → (∃ i : Nat, l1 = (i : Int) ∧ i ≤ 8 ∧ (∀ q, q ≠ a0 + 4 → q ≠ a0 + 5 → K3 q = K2 q) ∧ ∀ k, k < i → (K3 (a0 + 4) k).toInt = -1 ∧ (K3 (a0 + 5) k).toInt = 0) → J64 l1 K3 := by
            intro n64
            induction n64 using Nat.strongRecOn with
            | ind n64 ih64 =>
            intro l1 K3 hn64 hI64
            obtain ⟨i, rfl, hi, hfK3, hzK3⟩ := hI64
            refine hJ64 _ _ ?_
            unfold wz_24_64
            refine ⟨by omega, ?_⟩
            refine ⟨fun hq3 => ?_, fun hq3 => ?_⟩
            · have hK9 : ∀ q, q ≠ a0 + 2 → q ≠ a0 + 4 → q ≠ a0 + 5 → q ≠ a0 + 6 → K3 q = I9 q := fun q h1 h2 h3 h4 => by rw [hfK3 q h2 h3, hfK2 q h4, hfK q h1]
              refine ⟨rfl, ⟨?_, fun p h => absurd h (Nat.not_lt_zero p), fun p q hp hq => ?_, fun c h => absurd h (Nat.not_lt_zero c), fun c hc => hzK3 c (by omega), fun p c hp hc => ?_, ?_⟩, fun q hq => ?_⟩
              · rw [hK9 a0 (by omega) (by omega) (by omega) (by omega), hF9 a0 (by omega)]; exact h37
              · rw [hfK3 _ (by omega) (by omega), hfK2 _ (by omega)]; exact hzK _ (by omega)
              · rw [hfK3 _ (by omega) (by omega)]; exact hzK2 _ (by omega)
              · unfold LW; rw [hK9 (a0 + 7) (by omega) (by omega) (by omega) (by omega), hK9 (a0 + 7 + 1) (by omega) (by omega) (by omega) (by omega)]; exact hL9
              · rw [hK9 q (by omega) (by omega) (by omega) (by omega), hF9 q (by omega), h3q q (by omega)]
            · refine ⟨s_Land_0 hl, _, r_Land_0_3 hl, _, ⟨s_Land_4 hl, by decide⟩, by omega, ?_⟩
              intro I34 e_I34; subst e_I34
              refine ⟨_, r_Land_0_4 hl, _, ⟨s_Land_5 hl, by decide⟩, by omega, ?_⟩
              intro I40 e_I40; subst e_I40
              exact ih64 _ (by omega) _ _ rfl (⟨i + 1, by omega, by omega, fun q h1 h2 => by rw [jx_u_r _ _ _ h2, jx_u_r _ _ _ h1]; exact hfK3 q h1 h2, fun k hk => by
                rw [Int.toNat_natCast]
                rcases Nat.lt_or_ge k i with c | c
                · rw [jx_u_r _ _ _ (by omega), jx_u_k _ _ _ _ (by omega), jx_u_k _ _ _ _ (by omega), jx_u_r _ _ _ (by omega)]; exact hzK3 k c
                · rw [show k = i by omega, jx_u_r _ _ _ (by omega), jx_u_s, jx_u_s]; exact ⟨rfl, rfl⟩⟩)
          exact L64 _ _ _ rfl (⟨0, rfl, by omega, fun _ _ _ => rfl, fun k h => absurd h (by omega)⟩)
        · refine ⟨s_Land_0 hl, _, r_Land_0_5 hl, _, ⟨s_Land_6 hl, by decide⟩, by omega, ?_⟩
          intro I26 e_I26; subst e_I26
          exact ih43 _ (by omega) _ _ rfl (⟨i + 1, by omega, by omega, fun q hq => by rw [jx_u_r _ _ _ hq]; exact hfK2 q hq, fun k hk => by
            rw [Int.toNat_natCast]
            rcases Nat.lt_or_ge k i with c | c
            · rw [jx_u_k _ _ _ _ (by omega)]; exact hzK2 k c
            · rw [show k = i by omega, jx_u_s]; rfl⟩)
      exact L43 _ _ _ rfl (⟨0, rfl, by omega, fun _ _ => rfl, fun k h => absurd h (by omega)⟩)
    · refine ⟨by omega, ?_⟩
      intro I18 e_I18; subst e_I18
      exact ih19 _ (by omega) _ _ rfl (⟨i + 1, by omega, by omega, fun q hq => by rw [jx_u_r _ _ _ hq]; exact hfK q hq, fun k hk => by
        rw [Int.toNat_natCast]
        rcases Nat.lt_or_ge k i with c | c
        · rw [jx_u_k _ _ _ _ (by omega)]; exact hzK k c
        · rw [show k = i by omega, jx_u_s]; rfl⟩)
  exact L19 _ _ _ rfl (⟨0, rfl, by omega, fun _ _ => rfl, fun k h => absurd h (by omega)⟩)
/-- clauses are being read -/
def CLL (I K : jx_I) (ld tp : Nat) (T : List Int) (fd : Int) (R0 : PX LB) (l2 : Int) : Prop := FLd ld tp I K ∧ ∃ (L : LB) (p f cnt : Nat), R0 = cCl T f cnt L p ∧ l2 = (cnt : Int) ∧ f + cnt = 61 ∧ cnt ≤ 60 ∧ CST K tp T fd (.ok p) ∧ CLB K ld L ∧ WB L
theorem cCl_1 {T : List Int} {f cnt p q : Nat} {L L2 : LB} (h : ¬ T.length ≤ p) (h1 : cClause T cnt L p = .ok (L2, q)) (h2 : tat T q = 59) : cCl T (f + 1) cnt L p = cCl T f (cnt + 1) L2 (skB T (q + 1)) := by
  rw [cCl_s, if_neg h, px_o h1]
  show (pSgn T 59 q).bind _ = _
  unfold pSgn
  rw [if_pos h2]
  rfl
theorem cCl_2 {T : List Int} {f cnt p q : Nat} {L L2 : LB} (h : ¬ T.length ≤ p) (h1 : cClause T cnt L p = .ok (L2, q)) (h2 : tat T q ≠ 59) : cCl T (f + 1) cnt L p = .error (1, q) := by
  rw [cCl_s, if_neg h, px_o h1]
  show (pSgn T 59 q).bind _ = _
  unfold pSgn
  rw [if_neg h2]
  rfl
theorem cCl_3 {T : List Int} {f cnt p : Nat} {L : LB} {e : Int × Nat} (h : ¬ T.length ≤ p) (h1 : cClause T cnt L p = .error e) : cCl T (f + 1) cnt L p = .error e := by rw [cCl_s, if_neg h, px_e h1]
theorem cCl_4 {T : List Int} {f cnt p : Nat} {L : LB} (h : T.length ≤ p) : cCl T (f + 1) cnt L p = .ok L := by rw [cCl_s, if_pos h]
/-- GrievingCamels$Land.readFrom -/
theorem cz_23 {V : jx_V} (hV : V.1.stackTraces = false) {X : jx_X} {R : jx_R} {I : jx_I} {a0 : Nat} {a1 : Nat} {T : List Int} {fd : Int} {s : Nat}
    (hl : BX X R a0 TLand) (ht : BX X R a1 TTape) (hc : CST I a1 T fd (.ok s)) (hdy : a1 + 2 ≤ a0 ∨ a0 + 11 ≤ a1) (h600 : T.length ≤ 600)
    {QE : String → jx_I → Prop} : jc V 202 23 (0, 0) [.ref a0, .ref a1] X I R (fun rv I' => (∃ r : Int, rv = some (jy r) ∧ ((r = 1 ∧ ∃ L p, (cCl T 61 0 L00 s) = .ok L ∧ CST I' a1 T fd (.ok p) ∧ CLB I' a0 L) ∨ (r = 0 ∧ ∃ e, (cCl T 61 0 L00 s) = .error e ∧ CST I' a1 T fd (.error e)))) ∧ FLd a0 a1 I I') QE := by
  refine wm_23 hV   (fun J6 hJJ => ?_)
  have hJ6 := hJJ
  unfold wz_23
  refine ⟨s_Land_0 hl, ?_⟩
  refine ⟨_, cz_24 hV hl, ?_⟩
  rintro _ I4 ⟨rfl, hC4, hF4⟩
  refine ⟨rfl, ?_⟩
  have L6 : ∀ (n6 : Nat) (l2 : Int) (K : jx_I), n6 = (100 - l2).toNat → (CLL I K a0 a1 T fd (cCl T 61 0 L00 s) l2) → J6 l2 K := by
    intro n6
    induction n6 using Nat.strongRecOn with
    | ind n6 ih6 =>
    intro l2 K hn6 hI6
    obtain ⟨hFK, L, p, f, cnt, hE, rfl, hfc, hcnt, hcK, hCK, hWK⟩ := hI6
    obtain ⟨hAT, wf, we, nf, hT⟩ := id hcK
    have hpl := hAT.1
    obtain ⟨f, rfl⟩ : ∃ g, f = g + 1 := ⟨f - 1, by omega⟩
    refine hJ6 _ _ ?_
    unfold wz_23_6
    refine ⟨by omega, ?_⟩
    refine ⟨fun hq1 => ?_, fun hq1 => ?_⟩
    · exfalso
      omega
    · refine ⟨s_Tape_0 ht, ?_⟩
      refine ⟨_, cz_110 hV ht hT hpl, ?_⟩
      rintro _ I10 ⟨rfl, e9⟩; replace e9 := e9.symm; subst e9
      refine ⟨_, rfl, ?_⟩
      refine ⟨by omega, ?_⟩
      refine ⟨fun hq2 => ?_, fun hq2 => ?_⟩
      · have hle : T.length ≤ p := by
          rcases Nat.lt_or_ge p T.length with h | h
          · rw [if_pos h] at hq2; exact absurd rfl hq2
          · exact h
        exact ⟨⟨_, rfl, Or.inl ⟨rfl, L, p, by rw [hE]; exact cCl_4 hle, hcK, hCK⟩⟩, hFK⟩
      · have hle : ¬ T.length ≤ p := by
          intro h
          rw [if_neg (by omega)] at hq2
          exact absurd hq2 (by decide)
        refine ⟨s_Land_0 hl, ?_⟩
        refine ⟨_, cz_25 hV hl ht hcK hCK hWK hdy h600 rfl hcnt, ?_⟩
        rintro _ I16 ⟨⟨r169, rfl, ho16⟩, hF16⟩
        refine ⟨_, rfl, ?_⟩
        refine ⟨by omega, ?_⟩
        refine ⟨fun hq3 => ?_, fun hq3 => ?_⟩
        · obtain ⟨_, e, h1, h2⟩ := ho16.resolve_left (fun k => by omega)
          exact ⟨⟨_, rfl, Or.inr ⟨rfl, e, by rw [hE]; exact cCl_3 hle h1, h2⟩⟩, FLd_trans hFK hF16⟩
        · obtain ⟨_, w, hw1, hcw, hCw⟩ := ho16.resolve_right (fun k => hq3 k.1)
          obtain ⟨hATw, wf2, we2, nf2, hTw⟩ := id hcw
          have hco := cClause_ok h600 hpl hWK hw1
          refine ⟨_, cz_113 hV ht hTw hATw.1 (by omega), ?_⟩
          rintro _ I21 ⟨⟨r219, rfl, ho21⟩, hF21⟩
          refine ⟨_, rfl, ?_⟩
          refine ⟨by omega, ?_⟩
          refine ⟨fun hq4 => ?_, fun hq4 => ?_⟩
          · obtain ⟨_, h59, hT59⟩ := ho21.resolve_right (fun k => hq4 k.1)
            have hl59 := tat_in h59 (by decide)
            exact ih6 _ (by omega) _ _ rfl (⟨FLd_trans hFK (FLd_trans hF16 (FLd_t hF21)), w.1, skB T (w.2 + 1), f, cnt + 1, by rw [hE]; exact cCl_1 hle hw1 h59, by omega, by omega, by have := hco.2.2.2; omega, ⟨(AT_s (by omega)).1, _, _, _, hT59⟩, CLB_of hCw (fun q a b => hF21 q (by omega)), hco.2.2.1⟩)
          · obtain ⟨_, h59, hTe⟩ := ho21.resolve_left (fun k => by omega)
            exact ⟨⟨_, rfl, Or.inr ⟨rfl, _, by rw [hE]; exact cCl_2 hle hw1 h59, ⟨show (1 : Int) ≤ 1 by decide, show (1 : Int) ≤ 3 by decide⟩, _, _, _, _, hTe⟩⟩, FLd_trans hFK (FLd_trans hF16 (FLd_t hF21))⟩
  have hc4 : CST I4 a1 T fd (.ok s) := by
    obtain ⟨g, wf, we, nf, g2⟩ := hc
    exact ⟨g, wf, we, nf, TX_of g2 (hF4 _ (by omega)) (hF4 _ (by omega))⟩
  exact L6 _ _ _ rfl (⟨fun q a b => hF4 q (by omega), L00, s, 61, 0, rfl, rfl, rfl, Nat.zero_le _, hc4, hC4, WB_0⟩)
