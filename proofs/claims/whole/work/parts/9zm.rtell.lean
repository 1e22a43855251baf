/-! ===== the reference: nothing is told ===== -/
/-- GrievingCamelsModel.tellsNothing -/
theorem cz_200 {V : jx_V} (hV : V.1.stackTraces = false) {X : jx_X} {R : jx_R} {I : jx_I} {a0 : Nat} 
    (hM : MX X R a0)
    {QE : String → jx_I → Prop} : jc V 1 200 (0, 0) [.ref a0] X I R (fun rv I' => rv = none ∧ RLB I' a0 L00 ∧ FLb a0 I I' ∧ ∀ k, k ≠ 24 → I' a0 k = I a0 k) QE := by
  refine wm_200 hV   (fun J39 J47 hJJ => ?_)
  obtain ⟨hJ39, hJ47⟩ := hJJ
  unfold wz_200
  refine ⟨s_M_0 hM, _, r_M_10 hM, _, ⟨s_M_3 hM, by decide⟩, by omega, ?_⟩
  intro I7 e_I7; subst e_I7
  refine ⟨by omega, ?_⟩
  intro I9 e_I9; subst e_I9
  intro I10 e_I10; subst e_I10
  refine ⟨_, r_M_27 hM, _, ⟨s_M_665 hM, by decide⟩, by omega, _, rr_M_665 hM (by omega), _, ⟨sr_M_665 hM (by omega), by decide⟩, by omega, ?_⟩
  intro I21 e_I21; subst e_I21
  refine ⟨by omega, _, rr_M_665 hM (by omega), _, ⟨sr_M_665 hM (by omega), by decide⟩, by omega, ?_⟩
  intro I28 e_I28; subst e_I28
  obtain ⟨I28, h28⟩ : ∃ K, K = jx_u (jx_u (jx_u (jx_u (jx_u I (a0 + 3) (0 : Int).toNat (Int32.ofInt 0)) (a0 + 3) (1 : Int).toNat (Int32.ofInt 0)) a0 24 (Int32.ofInt 1)) (a0 + 666) (0 : Int).toNat (Int32.ofInt 1)) (a0 + 666) (1 : Int).toNat (Int32.ofInt 0) := ⟨_, rfl⟩
  show J39 0 (jx_u (jx_u (jx_u (jx_u (jx_u I (a0 + 3) (0 : Int).toNat (Int32.ofInt 0)) (a0 + 3) (1 : Int).toNat (Int32.ofInt 0)) a0 24 (Int32.ofInt 1)) (a0 + 666) (0 : Int).toNat (Int32.ofInt 1)) (a0 + 666) (1 : Int).toNat (Int32.ofInt 0))
  rw [← h28]
  have h28q : ∀ q, q ≠ a0 → q ≠ a0 + 3 → q ≠ a0 + 666 → I28 q = I q := fun q h1 h2 h3 => by rw [h28, jx_u_r _ _ _ h3, jx_u_r _ _ _ h3, jx_u_r _ _ _ h1, jx_u_r _ _ _ h2, jx_u_r _ _ _ h2]
  have h28k : ∀ k, k ≠ 24 → I28 a0 k = I a0 k := fun k h1 => by rw [h28, jx_u_r _ _ _ (by omega), jx_u_r _ _ _ (by omega), jx_u_k _ _ _ _ h1, jx_u_r _ _ _ (by omega), jx_u_r _ _ _ (by omega)]
  have h2824 : (I28 a0 24).toInt = 1 := by rw [h28, jx_u_r _ _ _ (by omega), jx_u_r _ _ _ (by omega), jx_u_s]; rfl
  have h2830 : (I28 (a0 + 3) 0).toInt = 0 := by rw [h28, jx_u_r _ _ _ (by omega), jx_u_r _ _ _ (by omega), jx_u_r _ _ _ (by omega), jx_u_k _ _ _ _ (by decide)]; exact congrArg Int32.toInt (jx_u_s _ _ _ _)
  have h2831 : (I28 (a0 + 3) 1).toInt = 0 := by rw [h28, jx_u_r _ _ _ (by omega), jx_u_r _ _ _ (by omega), jx_u_r _ _ _ (by omega)]; exact congrArg Int32.toInt (jx_u_s _ _ _ _)
  have h2860 : (I28 (a0 + 666) 0).toInt = 1 := by rw [h28, jx_u_k _ _ _ _ (by decide)]; exact congrArg Int32.toInt (jx_u_s _ _ _ _)
  have h2861 : (I28 (a0 + 666) 1).toInt = 0 := by rw [h28]; exact congrArg Int32.toInt (jx_u_s _ _ _ _)
  clear h28
  have L39 : ∀ (n39 : Nat) (l1 : Int) (K2 : jx_I), n39 = ((10 : Int) - l1).toNat → (∃ i : Nat, l1 = (i : Int) ∧ i ≤ 10 ∧ (∀ q, (q < a0 + 14 ∨ a0 + 24 ≤ q) → K2 q = I28 q) ∧ (∀ k j, k < i → j < 10 → (K2 (a0 + 14 + k) j).toInt = 0)) → J39 l1 K2 := by
    intro n39
    induction n39 using Nat.strongRecOn with
    | ind n39 ih39 =>
    intro l1 K2 hn39 hI39
    obtain ⟨i, rfl, hi, hfrK2, hrwK2⟩ := hI39
    refine hJ39 _ _ ?_
    unfold wz_200_39
    refine ⟨by omega, ?_⟩
    refine ⟨fun hq1 => ?_, fun hq1 => ?_⟩
    · refine ⟨rfl, ⟨by rw [hfrK2 _ (by omega)]; exact ⟨h2830, h2831⟩, fun p h => absurd h (Nat.not_lt_zero _), fun p q hp hq => hrwK2 p q (by omega) hq, fun c h => absurd h (Nat.not_lt_zero _), fun c p h => absurd h (Nat.not_lt_zero _), by rw [hfrK2 _ (by omega)]; exact h2824, fun k c h => ?_⟩, ⟨fun q h1 h2 => ?_, fun k hk => ?_⟩, fun k hk => by rw [hfrK2 _ (by omega)]; exact h28k k hk⟩
      · have hk0 : k = 0 := by have := gi_lt h; exact Nat.lt_one_iff.mp this
        subst hk0
        cases h
        unfold LWr
        rw [hfrK2 _ (by omega)]
        exact ⟨fun h => absurd h (by decide), fun _ _ => ⟨h2860, h2861⟩, fun h => absurd h (by decide)⟩
      · unfold RDo at h2
        rw [hfrK2 q (by omega)]
        exact h28q q h1 (by omega) (by omega)
      · rw [hfrK2 _ (by omega)]
        exact h28k k (fun e => hk (by rw [e]; decide))
    · have L47 : ∀ (n47 : Nat) (l1 : Int) (l2 : Int) (K3 : jx_I), n47 = ((10 : Int) - l2).toNat → (∃ j : Nat, l1 = (i : Int) ∧ l2 = (j : Int) ∧ j ≤ 10 ∧ (∀ q, (q < a0 + 14 ∨ a0 + 24 ≤ q) → K3 q = I28 q) ∧ (∀ k j, k < i → j < 10 → (K3 (a0 + 14 + k) j).toInt = 0) ∧ ∀ j2, j2 < j → (K3 (a0 + 14 + i) j2).toInt = 0) → J47 l1 l2 K3 := by
        intro n47
        induction n47 using Nat.strongRecOn with
        | ind n47 ih47 =>
        intro l1 l2 K3 hn47 hI47
        obtain ⟨j, rfl, rfl, hj, hfrK3, hrwK3, hinK3⟩ := hI47
        refine hJ47 _ _ _ ?_
        unfold wz_200_47
        refine ⟨by omega, ?_⟩
        refine ⟨fun hq2 => ?_, fun hq2 => ?_⟩
        · exact ih39 _ (by omega) _ _ rfl (⟨i + 1, by omega, by omega, hfrK3, fun k j2 h h2 => by
            rcases Nat.lt_or_ge k i with c | c
            · exact hrwK3 k j2 c h2
            · have : k = i := by omega
              subst this
              exact hinK3 j2 (by omega)⟩)
        · refine ⟨s_M_0 hM, _, r_M_20 hM, _, ⟨s_M_13 hM, by decide⟩, by omega, _, rr_M_13 hM (by omega), _, ⟨sr_M_13 hM (by omega), by decide⟩, by omega, ?_⟩
          intro I42 e_I42; subst e_I42
          exact ih47 _ (by omega) _ _ _ rfl (⟨j + 1, rfl, by omega, by omega, fun q hq => by rw [jx_u_r _ _ _ (by omega)]; exact hfrK3 q hq, fun k j2 h h2 => by rw [jx_u_r _ _ _ (by omega)]; exact hrwK3 k j2 h h2, fun j2 h => by
            rcases Nat.lt_or_ge j2 j with c | c
            · rw [jx_u_k _ _ _ _ (by omega)]; exact hinK3 j2 c
            · have : j2 = j := by omega
              subst this
              exact congrArg Int32.toInt (jx_u_s _ _ _ _)⟩)
      exact L47 _ _ _ _ rfl (⟨0, rfl, rfl, by omega, hfrK2, hrwK2, fun j2 h => absurd h (by omega)⟩)
  exact L39 _ _ _ rfl (⟨0, rfl, by omega, fun _ _ => rfl, fun k j h => absurd h (by omega)⟩)
