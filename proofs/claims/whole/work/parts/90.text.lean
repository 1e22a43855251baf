/-! ===== the reference: bytes of a text, blanks, faults ===== -/
/-- the reference reads the text T: where it stands, its fault and where -/
def RTX (I : jx_I) (m : Nat) (T : List Int) (p fk fa : Int) : Prop := ((I m 2).toInt = T.length ∧ (I m 4).toInt = p ∧ (I m 5).toInt = fk ∧ (I m 6).toInt = fa) ∧ T.length ≤ 600 ∧ ∀ (k : Nat) (x : Int), T[k]? = some x → (I (m + 1) k).toInt = x
/-- only the fields ks change -/
def FO (m : Nat) (ks : List Nat) (I I' : jx_I) : Prop := (∀ q, q ≠ m → I' q = I q) ∧ ∀ k, k ∉ ks → I' m k = I m k
theorem FO_refl {m : Nat} {ks : List Nat} {I : jx_I} : FO m ks I I := ⟨fun _ _ => rfl, fun _ _ => rfl⟩
theorem FO_trans {m : Nat} {ks : List Nat} {I I' I2 : jx_I} (h : FO m ks I I') (h2 : FO m ks I' I2) : FO m ks I I2 := ⟨fun q a => (h2.1 q a).trans (h.1 q a), fun k hk => (h2.2 k hk).trans (h.2 k hk)⟩
theorem FO_mono {m : Nat} {ks ks2 : List Nat} {I I' : jx_I} (h : FO m ks I I') (hs : ∀ k ∈ ks, k ∈ ks2) : FO m ks2 I I' := ⟨h.1, fun k hk => h.2 k (fun h2 => hk (hs k h2))⟩
theorem FO_f {m k : Nat} {ks : List Nat} {I I' : jx_I} {v : Int32} (h : FO m ks I I') (hk : k ∈ ks) : FO m ks I (jx_u I' m k v) := ⟨fun q a => by rw [jx_u_r _ _ _ a]; exact h.1 q a, fun j hj => by rw [jx_u_k _ _ _ _ (by intro e; exact hj (e ▸ hk))]; exact h.2 j hj⟩
theorem RTX_b {I : jx_I} {m : Nat} {T : List Int} {p fk fa : Int} (h : RTX I m T p fk fa) {i : Nat} (hi : i < T.length) : (I (m + 1) i).toInt = tat T i := h.2.2 i _ (tat_lt hi)
theorem RTX_4 {I : jx_I} {m : Nat} {T : List Int} {p fk fa v : Int} (h : RTX I m T p fk fa) (hv : -2147483648 ≤ v ∧ v < 2147483648) : RTX (jx_u I m 4 (Int32.ofInt v)) m T v fk fa := ⟨⟨by rw [jx_u_k _ _ _ _ (by omega)]; exact h.1.1, by rw [jx_u_s]; exact jy_toInt hv, by rw [jx_u_k _ _ _ _ (by omega)]; exact h.1.2.2.1, by rw [jx_u_k _ _ _ _ (by omega)]; exact h.1.2.2.2⟩, h.2.1, fun k x hk => by rw [jx_u_r _ _ _ (by omega)]; exact h.2.2 k x hk⟩
theorem RTX_56 {I : jx_I} {m : Nat} {T : List Int} {p fk fa v w : Int} (h : RTX I m T p fk fa) (hv : -2147483648 ≤ v ∧ v < 2147483648) (hw : -2147483648 ≤ w ∧ w < 2147483648) : RTX (jx_u (jx_u I m 5 (Int32.ofInt v)) m 6 (Int32.ofInt w)) m T p v w := ⟨⟨by rw [jx_u_k _ _ _ _ (by omega), jx_u_k _ _ _ _ (by omega)]; exact h.1.1, by rw [jx_u_k _ _ _ _ (by omega), jx_u_k _ _ _ _ (by omega)]; exact h.1.2.1, by rw [jx_u_k _ _ _ _ (by omega), jx_u_s]; exact jy_toInt hv, by rw [jx_u_s]; exact jy_toInt hw⟩, h.2.1, fun k x hk => by rw [jx_u_r _ _ _ (by omega), jx_u_r _ _ _ (by omega)]; exact h.2.2 k x hk⟩
theorem RTX_r {I : jx_I} {m : Nat} {T : List Int} {p fk fa : Int} (h : RTX I m T p fk fa) (i : Nat) : -2147483648 ≤ tat T i ∧ tat T i < 2147483648 := by
  rcases Nat.lt_or_ge i T.length with e | e
  · rw [← RTX_b h e]; exact jy_rng _
  · rw [tat_ge e]; decide
theorem skB_len (T : List Int) (i : Nat) (h : T.length ≤ i) : skB T i = i := skB_0 (by rw [tat_ge h]; decide)
/-- GrievingCamelsModel.byteAt -/
theorem cz_206 {V : jx_V} (hV : V.1.stackTraces = false) {X : jx_X} {R : jx_R} {I : jx_I} {a0 : Nat} {a1 : Int} {T : List Int} {p fk fa : Int} {i : Nat}
    (hM : MX X R a0) (hT : RTX I a0 T p fk fa) (h1 : a1 = (i : Int)) (hi : i < 2147483648)
    {QE : String → jx_I → Prop} : jc V 1 206 (0, 0) [.ref a0, jy a1] X I R (fun rv I' => rv = some (jy (tat T i)) ∧ I' = I) QE := by
  have h2 := hT.1.1
  have h6 := hT.2.1
  subst h1
  refine wm_206 hV (by omega)  ?_
  unfold wz_206
  refine ⟨s_M_0 hM, ?_⟩
  refine ⟨fun hq1 => ?_, fun hq1 => ?_⟩
  · refine ⟨_, r_M_8 hM, _, ⟨s_M_1 hM, by decide⟩, by omega, ?_⟩
    rw [Int.toNat_natCast, RTX_b hT (by omega)]
    exact ⟨rfl, rfl⟩
  · rw [tat_ge (by omega)]
    exact ⟨rfl, rfl⟩
/-- GrievingCamelsModel.blanks -/
theorem cz_207 {V : jx_V} (hV : V.1.stackTraces = false) {X : jx_X} {R : jx_R} {I : jx_I} {a0 : Nat} {T : List Int} {p : Nat} {fk fa : Int}
    (hM : MX X R a0) (hT : RTX I a0 T (p : Int) fk fa) (hp : p ≤ T.length)
    {QE : String → jx_I → Prop} : jc V 2 207 (0, 0) [.ref a0] X I R (fun rv I' => rv = none ∧ RTX I' a0 T (skB T p : Nat) fk fa ∧ FO a0 [4] I I') QE := by
  have h6 := hT.2.1
  refine wm_207 hV   (fun J0 hJJ => ?_)
  have hJ0 := hJJ
  unfold wz_207
  have L0 : ∀ (n0 : Nat)  (K : jx_I), n0 = ((T.length : Int) - (K a0 4).toInt).toNat → (∃ q : Nat, (K a0 4).toInt = (q : Int) ∧ p ≤ q ∧ q ≤ T.length ∧ skB T p = skB T q ∧ RTX K a0 T (q : Int) fk fa ∧ FO a0 [4] I K) → J0  K := by
    intro n0
    induction n0 using Nat.strongRecOn with
    | ind n0 ih0 =>
    intro  K hn0 hI0
    obtain ⟨q, h4, hpq, hq, hs, hTK, hF⟩ := hI0
    have hrg := RTX_r hTK q
    refine hJ0 _ ?_
    unfold wz_207_0
    refine ⟨s_M_0 hM, ?_⟩
    refine ⟨_, cz_206 (i := q) hV hM hTK h4 (by omega), ?_⟩
    rintro _ I4 ⟨rfl, e9⟩; replace e9 := e9.symm; subst e9
    refine ⟨_, rfl, ?_⟩
    refine ⟨by omega, ?_⟩
    refine ⟨fun hq1 => ?_, fun hq1 => ?_⟩
    · exact ⟨rfl, by rw [hs, skB_0 hq1]; exact hTK, hF⟩
    · have hql : q < T.length := by
        rcases Nat.lt_or_ge q T.length with e | e
        · exact e
        · rw [tat_ge e] at hq1; exact absurd hq1 (by decide)
      simp only [-eq_self, h4]
      have h9 : (jx_u K a0 4 (Int32.ofInt ((q : Int) + 1)) a0 4).toInt = ((q + 1 : Nat) : Int) := by rw [jx_u_s]; exact jy_toInt (by omega)
      intro I7 e_I7; subst e_I7
      exact ih0 _ (by omega) _ rfl (⟨q + 1, h9, by omega, by omega, by rw [hs, skB_1 (by omega)], RTX_4 hTK (by omega), FO_f hF (by decide)⟩)
  exact L0 _ _ rfl (⟨p, hT.1.2.1, by omega, hp, rfl, hT, FO_refl⟩)
/-- GrievingCamelsModel.wrong -/
theorem cz_208 {V : jx_V} (hV : V.1.stackTraces = false) {X : jx_X} {R : jx_R} {I : jx_I} {a0 : Nat} {a1 : Int} {a2 : Int} {T : List Int} {p fk fa : Int}
    (hM : MX X R a0) (hT : RTX I a0 T p fk fa) (r_a1 : -2147483648 ≤ a1 ∧ a1 < 2147483648) (r_a2 : -2147483648 ≤ a2 ∧ a2 < 2147483648)
    {QE : String → jx_I → Prop} : jc V 1 208 (0, 0) [.ref a0, jy a1, jy a2] X I R (fun rv I' => rv = none ∧ RTX I' a0 T p (if fk = 0 then a1 else fk) (if fk = 0 then a2 else fa) ∧ FO a0 [5, 6] I I') QE := by
  have h5 := hT.1.2.2.1
  refine wm_208 hV (by omega) (by omega)  ?_
  unfold wz_208
  refine ⟨s_M_0 hM, ?_⟩
  refine ⟨fun hq1 => ?_, fun hq1 => ?_⟩
  · rw [if_neg (by omega), if_neg (by omega)]
    exact ⟨rfl, hT, FO_refl⟩
  · intro I2 e_I2; subst e_I2
    intro I3 e_I3; subst e_I3
    rw [if_pos (by omega), if_pos (by omega)]
    exact ⟨rfl, RTX_56 hT r_a1 r_a2, FO_f (FO_f FO_refl (by decide)) (by decide)⟩
