/-! ===== a word put on the tape ===== -/
/-- a byte of a word, the highest first -/
def wby (w : Int) (i : Nat) : Int := (((Int32.ofInt w).toBitVec.toNat / 2 ^ (24 - 8 * i) % 256 : Nat) : Int)
theorem jz_byu (x : Int) (i : Nat) (hi : i < 4) : (Int32.ofInt ((((Int32.ofInt x).toUInt32 >>> ((Int32.ofInt ((24 : Int) - 8 * (i : Int))).toUInt32 &&& Int32.toUInt32 31)).toInt32).toInt) &&& Int32.ofInt 255).toInt = wby x i := by
  rw [Int32.ofInt_toInt]
  rcases (by omega : i = 0 ∨ i = 1 ∨ i = 2 ∨ i = 3) with rfl | rfl | rfl | rfl
  · have h := pk_and ((((Int32.ofInt x).toUInt32 >>> ((Int32.ofInt 24).toUInt32 &&& Int32.toUInt32 31)).toInt32)) (m := Int32.ofInt 255) 8 (by decide)
    show (((((Int32.ofInt x).toUInt32 >>> ((Int32.ofInt 24).toUInt32 &&& Int32.toUInt32 31)).toInt32)) &&& Int32.ofInt 255).toInt = _
    rw [h, pk_ushr (Int32.ofInt x) (Int32.ofInt 24) 24 (by decide), nI_toInt (by omega)]; rfl
  · have h := pk_and ((((Int32.ofInt x).toUInt32 >>> ((Int32.ofInt 16).toUInt32 &&& Int32.toUInt32 31)).toInt32)) (m := Int32.ofInt 255) 8 (by decide)
    show (((((Int32.ofInt x).toUInt32 >>> ((Int32.ofInt 16).toUInt32 &&& Int32.toUInt32 31)).toInt32)) &&& Int32.ofInt 255).toInt = _
    rw [h, pk_ushr (Int32.ofInt x) (Int32.ofInt 16) 16 (by decide), nI_toInt (by omega)]; rfl
  · have h := pk_and ((((Int32.ofInt x).toUInt32 >>> ((Int32.ofInt 8).toUInt32 &&& Int32.toUInt32 31)).toInt32)) (m := Int32.ofInt 255) 8 (by decide)
    show (((((Int32.ofInt x).toUInt32 >>> ((Int32.ofInt 8).toUInt32 &&& Int32.toUInt32 31)).toInt32)) &&& Int32.ofInt 255).toInt = _
    rw [h, pk_ushr (Int32.ofInt x) (Int32.ofInt 8) 8 (by decide), nI_toInt (by omega)]; rfl
  · have h := pk_and ((((Int32.ofInt x).toUInt32 >>> ((Int32.ofInt 0).toUInt32 &&& Int32.toUInt32 31)).toInt32)) (m := Int32.ofInt 255) 8 (by decide)
    show (((((Int32.ofInt x).toUInt32 >>> ((Int32.ofInt 0).toUInt32 &&& Int32.toUInt32 31)).toInt32)) &&& Int32.ofInt 255).toInt = _
    rw [h, pk_ushr (Int32.ofInt x) (Int32.ofInt 0) 0 (by decide), nI_toInt (by omega)]; rfl
/-- GrievingCamels$Tape.put -/
theorem cz_103 {V : jx_V} (hV : V.1.stackTraces = false) {X : jx_X} {R : jx_R} {I : jx_I} {a0 : Nat} {a1 : Int} {f : Nat}
    (ht : BX X R a0 TTape) (hf : (I a0 1).toInt = (f : Int)) (hf2 : f + 4 ≤ 600) (r_a1 : -2147483648 ≤ a1 ∧ a1 < 2147483648)
    {QE : String → jx_I → Prop} : jc V 1 103 (0, 0) [.ref a0, jy a1] X I R (fun rv I' => rv = none ∧ (I' a0 1).toInt = ((f + 4 : Nat) : Int) ∧ (∀ j, j < 4 → (I' (a0 + 1) (f + j)).toInt = wby a1 j) ∧ (∀ k, k < f → I' (a0 + 1) k = I (a0 + 1) k) ∧ (∀ k, k ≠ 1 → I' a0 k = I a0 k) ∧ ∀ q, q ≠ a0 → q ≠ a0 + 1 → I' q = I q) QE := by
  refine wm_103 hV (by omega)  (fun J3 J43 hJJ => ?_)
  obtain ⟨hJ3, hJ43⟩ := hJJ
  unfold wz_103
  have L3 : ∀ (n3 : Nat) (l2 : Int) (K : jx_I), n3 = (l2 + 8).toNat → (∃ i : Nat, l2 = (24 : Int) - 8 * (i : Int) ∧ i ≤ 4 ∧ (K a0 1).toInt = ((f + i : Nat) : Int) ∧ (∀ j, j < i → (K (a0 + 1) (f + j)).toInt = wby a1 j) ∧ (∀ k, k < f → K (a0 + 1) k = I (a0 + 1) k) ∧ (∀ k, k ≠ 1 → K a0 k = I a0 k) ∧ ∀ q, q ≠ a0 → q ≠ a0 + 1 → K q = I q) → J3 l2 K := by
    intro n3
    induction n3 using Nat.strongRecOn with
    | ind n3 ih3 =>
    intro l2 K hn3 hI3
    obtain ⟨i, rfl, hi, hfk, hb, hk1, hk2, hO⟩ := hI3
    refine hJ3 _ _ ?_
    unfold wz_103_3
    refine ⟨by omega, ?_⟩
    refine ⟨fun hq1 => ?_, fun hq1 => ?_⟩
    · have hi4 : i = 4 := by omega
      subst hi4
      exact ⟨rfl, hfk, hb, hk1, hk2, hO⟩
    · have hby := jz_byu a1 i (by omega)
      have hwr : 0 ≤ wby a1 i ∧ wby a1 i < 256 := by unfold wby; omega
      refine ⟨s_Tape_0 ht, ?_⟩
      refine ⟨fun hq2 => ?_, fun hq2 => ?_⟩
      · omega
      · refine ⟨_, r_Tape_0_0 ht, _, ⟨s_Tape_1 ht, by decide⟩, ?_⟩
        try simp only [-eq_self, hfk, Int.toNat_natCast, hby]
        refine ⟨by omega, ?_⟩
        intro I8 e_I8; subst e_I8
        intro I9 e_I9; subst e_I9
        refine hJ43 _ _ ?_
        unfold wz_103_43
        exact ih3 _ (by omega) _ _ rfl (⟨i + 1, by omega, by omega, by rw [jx_u_s, jx_u_a _ _ _ _ (by omega), hfk]; rw [jy_toInt (by omega)]; omega, fun j hj => by
          rw [jx_u_a _ _ _ _ (by omega)]
          rcases Nat.lt_or_ge j i with h | h
          · rw [jx_u_k _ _ _ _ (by omega)]; exact hb j h
          · rw [show j = i by omega, jx_u_s]; exact jy_toInt (by omega), fun k hk => by rw [jx_u_a _ _ _ _ (by omega), jx_u_k _ _ _ _ (by omega)]; exact hk1 k hk, fun k hk => by rw [jx_u_k _ _ _ _ hk, jx_u_a _ _ _ _ (by omega)]; exact hk2 k hk, fun q h1 h2 => by rw [jx_u_r _ _ _ h1, jx_u_r _ _ _ h2]; exact hO q h1 h2⟩)
  exact L3 _ _ _ rfl (⟨0, by omega, by omega, by rw [hf]; rfl, fun j h => absurd h (by omega), fun _ _ => rfl, fun _ _ => rfl, fun _ _ _ => rfl⟩)
