/-! ===== the reference: what was read stands ===== -/
theorem RLB_x {I I' : jx_I} {m : Nat} {L : LB} (h : RLB I m L) (hl : (Lc L.1).length ≤ 620) (hn : Lm L.1 ≤ 8) (e : ∀ q, q = m ∨ RDo m q → I' q = I q) : RLB I' m L := by
  obtain ⟨h1, h2, h3, h4, h5, h6⟩ := h
  have e2 : ∀ q, RDo m q → I' q = I q := fun q h => e q (Or.inr h)
  refine ⟨by rw [e2 _ (by unfold RDo; omega)]; exact h1, fun p hp => by rw [e2 _ (by unfold RDo; omega)]; exact h2 p hp, fun p q hp hq => by rw [e2 _ (by unfold RDo; omega)]; exact h3 p q hp hq, fun c hc => by rw [e2 (m + 7) (by unfold RDo; omega), e2 (m + 9) (by unfold RDo; omega), e2 (m + 11) (by unfold RDo; omega)]; exact h4 c hc, fun c p hc hp => by rw [e2 _ (by unfold RDo; omega)]; exact h5 c p hc hp, RLW_r h6 (e m (Or.inl rfl)) (fun q h1 h2 => e2 q (by unfold RDo; omega)) hl⟩
/-- places of what stands of a land -/
def SDo (m q : Nat) : Prop := q = m + 4 ∨ q = m + 6 ∨ q = m + 8 ∨ q = m + 10 ∨ q = m + 12 ∨ q = m + 1344 ∨ (m + 25 ≤ q ∧ q < m + 35) ∨ (m + 45 ≤ q ∧ q < m + 665) ∨ (m + 1288 ≤ q ∧ q < m + 1305)
def KSD : List Nat := [23, 36, 37, 38, 39, 40, 56]
def S1d (K : jx_I) (m i : Nat) : jx_I := jx_u K (m + 8) i (Int32.ofInt (K (m + 7) i).toInt)
def S2d (K : jx_I) (m i : Nat) : jx_I := jx_u (S1d K m i) (m + 10) i (Int32.ofInt (S1d K m i (m + 9) i).toInt)
def S3d (K : jx_I) (m i : Nat) : jx_I := jx_u (S2d K m i) (m + 12) i (Int32.ofInt (S2d K m i (m + 11) i).toInt)
def S4d (K : jx_I) (m i : Nat) : jx_I := jx_u (S3d K m i) (m + 1344) i (Int32.ofInt (i : Int))
theorem S4d_k {K : jx_I} {m i : Nat} (q : Nat) {j : Nat} (h : j ≠ i) : S4d K m i q j = K q j := by
  unfold S4d S3d S2d S1d
  rw [jx_u_k _ _ _ _ h, jx_u_k _ _ _ _ h, jx_u_k _ _ _ _ h, jx_u_k _ _ _ _ h]
theorem S4d_q {K : jx_I} {m i q : Nat} (h1 : q ≠ m + 8) (h2 : q ≠ m + 10) (h3 : q ≠ m + 12) (h4 : q ≠ m + 1344) : S4d K m i q = K q := by
  unfold S4d S3d S2d S1d
  rw [jx_u_r _ _ _ h4, jx_u_r _ _ _ h3, jx_u_r _ _ _ h2, jx_u_r _ _ _ h1]
theorem S4d_v {K : jx_I} {m i : Nat} {L : LB} (hR : RLB K m L) (hi : i < Lm L.1) (h8 : i ≤ 8) : (S4d K m i (m + 8) i).toInt = Lp L.1 i ∧ (S4d K m i (m + 10) i).toInt = Lo L.1 i ∧ (S4d K m i (m + 12) i).toInt = (Lf L.1 i : Int) ∧ (S4d K m i (m + 1344) i).toInt = (i : Int) := by
  have g := hR.2.2.2.1 i hi
  have s1 : ∀ q, q ≠ m + 8 → S1d K m i q = K q := fun q h => by unfold S1d; rw [jx_u_r _ _ _ h]
  have s2 : ∀ q, q ≠ m + 10 → S2d K m i q = S1d K m i q := fun q h => by unfold S2d; rw [jx_u_r _ _ _ h]
  have s3 : ∀ q, q ≠ m + 12 → S3d K m i q = S2d K m i q := fun q h => by unfold S3d; rw [jx_u_r _ _ _ h]
  have s4 : ∀ q, q ≠ m + 1344 → S4d K m i q = S3d K m i q := fun q h => by unfold S4d; rw [jx_u_r _ _ _ h]
  refine ⟨?_, ?_, ?_, ?_⟩
  · rw [s4 _ (by omega), s3 _ (by omega), s2 _ (by omega)]; unfold S1d; rw [jx_u_s, jy_toInt (jy_rng _)]; exact g.1
  · rw [s4 _ (by omega), s3 _ (by omega)]; unfold S2d; rw [jx_u_s, jy_toInt (jy_rng _), s1 _ (by omega)]; exact g.2.1
  · rw [s4 _ (by omega)]; unfold S3d; rw [jx_u_s, jy_toInt (jy_rng _), s2 _ (by omega), s1 _ (by omega)]; exact g.2.2
  · unfold S4d; rw [jx_u_s]; exact jy_toInt (by omega)
def T1d (K : jx_I) (m i j : Nat) : jx_I := jx_u K (m + 1288 + i) j (Int32.ofInt (K (m + 36 + i) j).toInt)
def T2d (K : jx_I) (m i j : Nat) : jx_I := jx_u (T1d K m i j) (m + 1297 + i) j (Int32.ofInt (T1d K m i j (m + 36 + i) j).toInt)
theorem T2d_q {K : jx_I} {m i j q : Nat} (h1 : q ≠ m + 1288 + i) (h2 : q ≠ m + 1297 + i) : T2d K m i j q = K q := by
  unfold T2d T1d
  rw [jx_u_r _ _ _ h2, jx_u_r _ _ _ h1]
theorem T2d_k {K : jx_I} {m i j j2 : Nat} (q : Nat) (h : j2 ≠ j) : T2d K m i j q j2 = K q j2 := by
  unfold T2d T1d
  rw [jx_u_k _ _ _ _ h, jx_u_k _ _ _ _ h]
theorem T2d_v {K : jx_I} {m i j : Nat} {x : Int} (hi : i < 8) (h : (K (m + 36 + i) j).toInt = x) : (T2d K m i j (m + 1288 + i) j).toInt = x ∧ (T2d K m i j (m + 1297 + i) j).toInt = x := by
  have t1 : ∀ q, q ≠ m + 1288 + i → T1d K m i j q = K q := fun q h => by unfold T1d; rw [jx_u_r _ _ _ h]
  refine ⟨?_, ?_⟩
  · unfold T2d; rw [jx_u_r _ _ _ (by omega)]; unfold T1d; rw [jx_u_s, jy_toInt (jy_rng _)]; exact h
  · unfold T2d; rw [jx_u_s, jy_toInt (jy_rng _), t1 _ (by omega)]; exact h
def FSD (m : Nat) (I I' : jx_I) : Prop := (∀ q, q ≠ m → ¬ SDo m q → I' q = I q) ∧ ∀ k, k ∉ KSD → I' m k = I m k
/-- GrievingCamelsModel.stands -/
theorem cz_229 {V : jx_V} (hV : V.1.stackTraces = false) {X : jx_X} {R : jx_R} {I : jx_I} {a0 : Nat} {L : LB}
    (hM : MX X R a0) (hR : RLB I a0 L) (hW : WB L)
    {QE : String → jx_I → Prop} : jc V 1 229 (0, 0) [.ref a0] X I R (fun rv I' => rv = none ∧ MSX I' a0 L.1 (CT0 L) ∧ (I' a0 40).toInt = 0 ∧ (I' a0 56).toInt = 0 ∧ FSD a0 I I') QE := by
  have hl := hW.2.2.2.2.2.1.1
  have hl620 : (Lc L.1).length ≤ 620 := by omega
  have hn10 := hW.1
  refine wm_229 hV   (fun J2 J27 J51 J91 J146 J206 J216 hJJ => ?_)
  obtain ⟨hJ2, hJ27, hJ51, hJ91, hJ146, hJ206, hJ216⟩ := hJJ
  unfold wz_229
  have L2 : ∀ (n2 : Nat) (l1 : Int) (K2 : jx_I), n2 = ((2 : Int) - l1).toNat → (∃ i : Nat, l1 = (i : Int) ∧ i ≤ 2 ∧ (∀ q, q ≠ a0 + 4 → K2 q = I q) ∧ ∀ k, k < i → K2 (a0 + 4) k = I (a0 + 3) k) → J2 l1 K2 := by
    intro n2
    induction n2 using Nat.strongRecOn with
    | ind n2 ih2 =>
    intro l1 K2 hn2 hI2
    obtain ⟨i, rfl, hi, hfrK2, hrwK2⟩ := hI2
    have hR2 := RLB_x hR hl620 hW.1.2 (fun q hq => hfrK2 q (by unfold RDo at hq; omega))
    refine hJ2 _ _ ?_
    unfold wz_229_2
    refine ⟨by omega, ?_⟩
    refine ⟨fun hq1 => ?_, fun hq1 => ?_⟩
    · have h240 := hrwK2 0 (by omega)
      have h241 := hrwK2 1 (by omega)
      have L27 : ∀ (n27 : Nat) (l1 : Int) (K3 : jx_I), n27 = ((Ln L.1 : Int) - l1).toNat → (∃ i : Nat, l1 = (i : Int) ∧ i ≤ Ln L.1 ∧ (∀ q, (q ≠ a0 + 6 ∧ (q < a0 + 25 ∨ a0 + 35 ≤ q)) → K3 q = K2 q) ∧ (∀ k, k < i → (K3 (a0 + 6) k).toInt = Lk L.1 k ∧ ∀ j, j < Ln L.1 → (K3 (a0 + 25 + k) j).toInt = Lr L.1 k j)) → J27 l1 K3 := by
        intro n27
        induction n27 using Nat.strongRecOn with
        | ind n27 ih27 =>
        intro l1 K3 hn27 hI27
        obtain ⟨i, rfl, hi, hfrK3, hrwK3⟩ := hI27
        have hR3 := RLB_x hR2 hl620 hW.1.2 (fun q hq => hfrK3 q (by unfold RDo at hq; omega))
        have hn3 : (K3 (a0 + 4) (0 : Int).toNat).toInt = (Ln L.1 : Int) := by rw [hfrK3 _ (by omega)]; show (K2 (a0 + 4) 0).toInt = _; rw [h240]; exact hR.1.1
        refine hJ27 _ _ ?_
        unfold wz_229_27
        refine ⟨s_M_0 hM, _, r_M_11 hM, _, ⟨s_M_4 hM, by decide⟩, by omega, by omega, ?_⟩
        refine ⟨fun hq2 => ?_, fun hq2 => ?_⟩
        · have hin : i = Ln L.1 := by omega
          subst hin
          have L91 : ∀ (n91 : Nat) (l1 : Int) (K5 : jx_I), n91 = ((Lm L.1 : Int) - l1).toNat → (∃ i : Nat, l1 = (i : Int) ∧ i ≤ Lm L.1 ∧ (∀ q, (q ≠ a0 + 8 ∧ q ≠ a0 + 10 ∧ q ≠ a0 + 12 ∧ q ≠ a0 + 1344 ∧ (q < a0 + 1288 ∨ a0 + 1305 ≤ q)) → K5 q = K3 q) ∧ (∀ k, k < i → ((K5 (a0 + 8) k).toInt = Lp L.1 k ∧ (K5 (a0 + 10) k).toInt = Lo L.1 k ∧ (K5 (a0 + 12) k).toInt = (Lf L.1 k : Int) ∧ (K5 (a0 + 1344) k).toInt = (k : Int)) ∧ ∀ j, j < 10 → (K5 (a0 + 1288 + k) j).toInt = L.2 j k ∧ (K5 (a0 + 1297 + k) j).toInt = L.2 j k)) → J91 l1 K5 := by
            intro n91
            induction n91 using Nat.strongRecOn with
            | ind n91 ih91 =>
            intro l1 K5 hn91 hI91
            obtain ⟨i, rfl, hi, hfrK5, hrwK5⟩ := hI91
            have hR5 := RLB_x hR3 hl620 hW.1.2 (fun q hq => hfrK5 q (by unfold RDo at hq; omega))
            have hn5 : (K5 (a0 + 4) (1 : Int).toNat).toInt = (Lm L.1 : Int) := by rw [hfrK5 _ (by omega), hfrK3 _ (by omega)]; show (K2 (a0 + 4) 1).toInt = _; rw [h241]; exact hR.1.2
            refine hJ91 _ _ ?_
            unfold wz_229_91
            refine ⟨s_M_0 hM, _, r_M_11 hM, _, ⟨s_M_4 hM, by decide⟩, by omega, by omega, ?_⟩
            refine ⟨fun hq3 => ?_, fun hq3 => ?_⟩
            · have him : i = Lm L.1 := by omega
              subst him
              intro I67 e_I67; subst e_I67
              have hc24 : (K5 a0 24).toInt = ((Lc L.1).length : Int) := hR5.2.2.2.2.2.1
              obtain ⟨I67, h67⟩ : ∃ K, K = jx_u K5 a0 23 (Int32.ofInt (K5 a0 24).toInt) := ⟨_, rfl⟩
              rw [← h67]
              have h6723 : (I67 a0 23).toInt = ((Lc L.1).length : Int) := by rw [h67, jx_u_s, jy_toInt (jy_rng _)]; exact hc24
              have h67k : ∀ k, k ≠ 23 → I67 a0 k = K5 a0 k := fun k h => by rw [h67, jx_u_k _ _ _ _ h]
              have h67q : ∀ q, q ≠ a0 → I67 q = K5 q := fun q h => by rw [h67, jx_u_r _ _ _ h]
              clear h67
              have L206 : ∀ (n206 : Nat) (l1 : Int) (K7 : jx_I), n206 = (((Lc L.1).length : Int) - l1).toNat → (∃ i : Nat, l1 = (i : Int) ∧ i ≤ (Lc L.1).length ∧ (∀ q, (q < a0 + 45 ∨ a0 + 665 ≤ q) → K7 q = I67 q) ∧ (∀ k j, k < i → j < 2 → (K7 (a0 + 45 + k) j).toInt = (I67 (a0 + 666 + k) j).toInt)) → J206 l1 K7 := by
                intro n206
                induction n206 using Nat.strongRecOn with
                | ind n206 ih206 =>
                intro l1 K7 hn206 hI206
                obtain ⟨i, rfl, hi, hfrK7, hrwK7⟩ := hI206
                have hn7 : (K7 a0 23).toInt = ((Lc L.1).length : Int) := by rw [hfrK7 _ (by omega)]; exact h6723
                refine hJ206 _ _ ?_
                unfold wz_229_206
                refine ⟨s_M_0 hM, by omega, ?_⟩
                refine ⟨fun hq4 => ?_, fun hq4 => ?_⟩
                · have hic : i = (Lc L.1).length := by omega
                  subst hic
                  refine ⟨_, r_M_11 hM, _, ⟨s_M_4 hM, by decide⟩, by omega, ?_⟩
                  intro I154 e_I154; subst e_I154
                  intro I155 e_I155; subst e_I155
                  intro I156 e_I156; subst e_I156
                  intro I157 e_I157; subst e_I157
                  intro I158 e_I158; subst e_I158
                  intro I159 e_I159; subst e_I159
                  have key : ∀ K1 : jx_I, K1 = jx_u (jx_u (jx_u (jx_u (jx_u (jx_u K7 a0 36 (Int32.ofInt (K7 (a0 + 4) 1).toInt)) a0 37 (Int32.ofInt 0)) a0 38 (Int32.ofInt 0)) a0 39 (Int32.ofInt 0)) a0 40 (Int32.ofInt 0)) a0 56 (Int32.ofInt 0) → (none : Option Value) = none ∧ MSX K1 a0 L.1 (CT0 L) ∧ (K1 a0 40).toInt = 0 ∧ (K1 a0 56).toInt = 0 ∧ FSD a0 I K1 := by
                    intro K1 h1
                    have e1q : ∀ q, q ≠ a0 → K1 q = K7 q := fun q h => by rw [h1, jx_u_r _ _ _ h, jx_u_r _ _ _ h, jx_u_r _ _ _ h, jx_u_r _ _ _ h, jx_u_r _ _ _ h, jx_u_r _ _ _ h]
                    have e5 : ∀ q, q ≠ a0 → (q < a0 + 45 ∨ a0 + 665 ≤ q) → K1 q = K5 q := fun q h h2 => by rw [e1q q h, hfrK7 q h2, h67q q h]
                    have e7 : ∀ k, k ∉ [36, 37, 38, 39, 40, 56] → K1 a0 k = K7 a0 k := fun k hk => by
                      simp only [List.mem_cons, not_or] at hk
                      rw [h1, jx_u_k _ _ _ _ (by omega), jx_u_k _ _ _ _ (by omega), jx_u_k _ _ _ _ (by omega), jx_u_k _ _ _ _ (by omega), jx_u_k _ _ _ _ (by omega), jx_u_k _ _ _ _ (by omega)]
                    have e56 : (K1 a0 56).toInt = 0 := by rw [h1, jx_u_s]; rfl
                    have e40 : (K1 a0 40).toInt = 0 := by rw [h1, jx_u_k _ _ _ _ (by decide), jx_u_s]; rfl
                    have e39 : (K1 a0 39).toInt = 0 := by rw [h1, jx_u_k _ _ _ _ (by decide), jx_u_k _ _ _ _ (by decide), jx_u_s]; rfl
                    have e38 : (K1 a0 38).toInt = 0 := by rw [h1, jx_u_k _ _ _ _ (by decide), jx_u_k _ _ _ _ (by decide), jx_u_k _ _ _ _ (by decide), jx_u_s]; rfl
                    have e37 : (K1 a0 37).toInt = 0 := by rw [h1, jx_u_k _ _ _ _ (by decide), jx_u_k _ _ _ _ (by decide), jx_u_k _ _ _ _ (by decide), jx_u_k _ _ _ _ (by decide), jx_u_s]; rfl
                    have e41 : (K1 (a0 + 4) 1).toInt = (Lm L.1 : Int) := by rw [e5 _ (by omega) (by omega), hfrK5 _ (by omega), hfrK3 _ (by omega), h241]; exact hR.1.2
                    have e36 : (K1 a0 36).toInt = (Lm L.1 : Int) := by
                      rw [e1q _ (by omega)] at e41
                      rw [h1, jx_u_k _ _ _ _ (by decide), jx_u_k _ _ _ _ (by decide), jx_u_k _ _ _ _ (by decide), jx_u_k _ _ _ _ (by decide), jx_u_k _ _ _ _ (by decide), jx_u_s, jy_toInt (jy_rng _)]; exact e41
                    clear h1
                    refine ⟨rfl, ⟨⟨⟨?_, e41⟩, fun p hp => ?_, fun p q hp hq => ?_, fun c hc => ?_, ?_, fun k c h => ?_⟩, ⟨⟨?_, fun k x h => ?_⟩, fun p c hp hc => ?_, fun p c hp hc => ?_⟩, ⟨e37, fun k x h => by cases h⟩, ⟨e38, Nat.zero_le _, fun k x h => by cases h⟩, ⟨e39, Nat.zero_le _, fun k x h => by cases h⟩⟩, e40, e56, fun q h1 h2 => ?_, fun k hk => ?_⟩
                    · rw [e5 _ (by omega) (by omega), hfrK5 _ (by omega), hfrK3 _ (by omega), h240]; exact hR.1.1
                    · rw [e5 _ (by omega) (by omega), hfrK5 _ (by omega)]; exact (hrwK3 p hp).1
                    · rw [e5 _ (by omega) (by omega), hfrK5 _ (by omega)]; exact (hrwK3 p hp).2 q hq
                    · have g := (hrwK5 c hc).1
                      rw [e5 (a0 + 8) (by omega) (by omega), e5 (a0 + 10) (by omega) (by omega), e5 (a0 + 12) (by omega) (by omega)]
                      exact ⟨g.1, g.2.1, g.2.2.1⟩
                    · rw [e7 23 (by decide)]; exact hn7
                    · have hk := gi_lt h
                      have g := hR5.2.2.2.2.2.2 k c h
                      unfold LWr at g
                      have r0 := hrwK7 k 0 hk (by omega)
                      have r1 := hrwK7 k 1 hk (by omega)
                      rw [h67q _ (by omega)] at r0 r1
                      rw [e1q _ (by omega), r0, r1]
                      exact g
                    · rw [e36]; show _ = ((List.range (Lm L.1)).length : Int); rw [List.length_range]
                    · have hk := gi_lt h
                      replace h : (List.range (Lm L.1))[k]? = some x := h
                      replace hk : k < (List.range (Lm L.1)).length := hk
                      rw [List.length_range] at hk
                      rw [List.getElem?_range hk] at h
                      cases h
                      rw [e5 _ (by omega) (by omega)]
                      exact (hrwK5 k hk).1.2.2.2
                    · rw [e5 _ (by omega) (by omega)]; exact ((hrwK5 c hc).2 p (by omega)).1
                    · rw [e5 _ (by omega) (by omega)]; exact ((hrwK5 c hc).2 p (by omega)).2
                    · unfold SDo at h2
                      rw [e5 q h1 (by omega), hfrK5 q (by omega), hfrK3 q (by omega), hfrK2 q (by omega)]
                    · simp only [KSD, List.mem_cons, not_or] at hk
                      rw [e7 k (by simp; omega), hfrK7 a0 (by omega), h67k k (by omega), hfrK5 a0 (by omega), hfrK3 a0 (by omega), hfrK2 a0 (by omega)]
                  exact key _ rfl
                · have L216 : ∀ (n216 : Nat) (l1 : Int) (l2 : Int) (K8 : jx_I), n216 = ((2 : Int) - l2).toNat → (∃ j : Nat, l1 = (i : Int) ∧ l2 = (j : Int) ∧ j ≤ 2 ∧ (∀ q, (q < a0 + 45 ∨ a0 + 665 ≤ q) → K8 q = I67 q) ∧ (∀ k j, k < i → j < 2 → (K8 (a0 + 45 + k) j).toInt = (I67 (a0 + 666 + k) j).toInt) ∧ ∀ j2, j2 < j → (K8 (a0 + 45 + i) j2).toInt = (I67 (a0 + 666 + i) j2).toInt) → J216 l1 l2 K8 := by
                    intro n216
                    induction n216 using Nat.strongRecOn with
                    | ind n216 ih216 =>
                    intro l1 l2 K8 hn216 hI216
                    obtain ⟨j, rfl, rfl, hj, hfrK8, hrwK8, hinK8⟩ := hI216
                    refine hJ216 _ _ _ ?_
                    unfold wz_229_216
                    refine ⟨by omega, ?_⟩
                    refine ⟨fun hq5 => ?_, fun hq5 => ?_⟩
                    · exact ih206 _ (by omega) _ _ rfl (⟨i + 1, by omega, by omega, hfrK8, fun k j2 h h2 => by
                        rcases Nat.lt_or_ge k i with c | c
                        · exact hrwK8 k j2 c h2
                        · have : k = i := by omega
                          subst this
                          exact hinK8 j2 (by omega)⟩)
                    · refine ⟨s_M_0 hM, _, r_M_26 hM, _, ⟨s_M_44 hM, by decide⟩, by omega, _, rr_M_44 hM (by omega), _, r_M_27 hM, _, ⟨s_M_665 hM, by decide⟩, by omega, _, rr_M_665 hM (by omega), _, ⟨sr_M_665 hM (by omega), by decide⟩, by omega, _, ⟨sr_M_44 hM (by omega), by decide⟩, by omega, ?_⟩
                      intro I182 e_I182; subst e_I182
                      exact ih216 _ (by omega) _ _ _ rfl (⟨j + 1, rfl, by omega, by omega, fun q hq => by rw [jx_u_r _ _ _ (by omega)]; exact hfrK8 q hq, fun k j2 h h2 => by rw [jx_u_r _ _ _ (by omega)]; exact hrwK8 k j2 h h2, fun j2 h => by
                        rcases Nat.lt_or_ge j2 j with c | c
                        · rw [jx_u_k _ _ _ _ (by omega)]; exact hinK8 j2 c
                        · have : j2 = j := by omega
                          subst this
                          show (jx_u K8 (a0 + 45 + i) j2 (Int32.ofInt (K8 (a0 + 666 + i) j2).toInt) (a0 + 45 + i) j2).toInt = _
                          rw [jx_u_s, jy_toInt (jy_rng _), hfrK8 _ (by omega)]⟩)
                  exact L216 _ _ _ _ rfl (⟨0, rfl, rfl, by omega, hfrK7, hrwK7, fun j2 h => absurd h (by omega)⟩)
              exact L206 _ _ _ rfl (⟨0, rfl, by omega, fun _ _ => rfl, fun k j h => absurd h (by omega)⟩)
            · refine ⟨_, r_M_15 hM, _, r_M_14 hM, _, ⟨s_M_7 hM, by decide⟩, by omega, _, ⟨s_M_8 hM, by decide⟩, by omega, ?_⟩
              intro I78 e_I78; subst e_I78
              refine ⟨_, r_M_17 hM, _, r_M_16 hM, _, ⟨s_M_9 hM, by decide⟩, by omega, _, ⟨s_M_10 hM, by decide⟩, by omega, ?_⟩
              intro I89 e_I89; subst e_I89
              refine ⟨_, r_M_19 hM, _, r_M_18 hM, _, ⟨s_M_11 hM, by decide⟩, by omega, _, ⟨s_M_12 hM, by decide⟩, by omega, ?_⟩
              intro I100 e_I100; subst e_I100
              refine ⟨_, r_M_34 hM, _, ⟨s_M_1344 hM, by decide⟩, by omega, ?_⟩
              intro I106 e_I106; subst e_I106
              obtain ⟨K9, h9⟩ : ∃ K, K = S4d K5 a0 i := ⟨_, rfl⟩
              show J146 ((i : Nat) : Int) 0 (S4d K5 a0 i)
              rw [← h9]
              have h9q : ∀ q, (q ≠ a0 + 8 ∧ q ≠ a0 + 10 ∧ q ≠ a0 + 12 ∧ q ≠ a0 + 1344) → K9 q = K5 q := fun q h => by rw [h9]; exact S4d_q h.1 h.2.1 h.2.2.1 h.2.2.2
              have h9k : ∀ q k, k ≠ i → K9 q k = K5 q k := fun q k h => by rw [h9]; exact S4d_k q h
              have h9v : ((K9 (a0 + 8) i).toInt = Lp L.1 i ∧ (K9 (a0 + 10) i).toInt = Lo L.1 i ∧ (K9 (a0 + 12) i).toInt = (Lf L.1 i : Int) ∧ (K9 (a0 + 1344) i).toInt = (i : Int)) := by rw [h9]; exact S4d_v hR5 (by omega) (by omega)
              clear h9
              have L146 : ∀ (n146 : Nat) (l1 : Int) (l2 : Int) (K6 : jx_I), n146 = ((10 : Int) - l2).toNat → (∃ j : Nat, l1 = (i : Int) ∧ l2 = (j : Int) ∧ j ≤ 10 ∧ (∀ q, (q ≠ a0 + 8 ∧ q ≠ a0 + 10 ∧ q ≠ a0 + 12 ∧ q ≠ a0 + 1344 ∧ (q < a0 + 1288 ∨ a0 + 1305 ≤ q)) → K6 q = K3 q) ∧ (∀ k, k < i → ((K6 (a0 + 8) k).toInt = Lp L.1 k ∧ (K6 (a0 + 10) k).toInt = Lo L.1 k ∧ (K6 (a0 + 12) k).toInt = (Lf L.1 k : Int) ∧ (K6 (a0 + 1344) k).toInt = (k : Int)) ∧ ∀ j, j < 10 → (K6 (a0 + 1288 + k) j).toInt = L.2 j k ∧ (K6 (a0 + 1297 + k) j).toInt = L.2 j k) ∧ ((K6 (a0 + 8) i).toInt = Lp L.1 i ∧ (K6 (a0 + 10) i).toInt = Lo L.1 i ∧ (K6 (a0 + 12) i).toInt = (Lf L.1 i : Int) ∧ (K6 (a0 + 1344) i).toInt = (i : Int)) ∧ ∀ j2, j2 < j → (K6 (a0 + 1288 + i) j2).toInt = L.2 j2 i ∧ (K6 (a0 + 1297 + i) j2).toInt = L.2 j2 i) → J146 l1 l2 K6 := by
                intro n146
                induction n146 using Nat.strongRecOn with
                | ind n146 ih146 =>
                intro l1 l2 K6 hn146 hI146
                obtain ⟨j, rfl, rfl, hj, hfrK6, hrwK6, hkK6, hinK6⟩ := hI146
                have hR6 := RLB_x hR3 hl620 hW.1.2 (fun q hq => hfrK6 q (by unfold RDo at hq; omega))
                refine hJ146 _ _ _ ?_
                unfold wz_229_146
                refine ⟨by omega, ?_⟩
                refine ⟨fun hq6 => ?_, fun hq6 => ?_⟩
                · exact ih91 _ (by omega) _ _ rfl (⟨i + 1, by omega, by omega, hfrK6, fun k h => by
                    rcases Nat.lt_or_ge k i with c | c
                    · exact hrwK6 k c
                    · have : k = i := by omega
                      subst this
                      exact ⟨hkK6, fun j2 h2 => hinK6 j2 (by omega)⟩⟩)
                · refine ⟨s_M_0 hM, _, r_M_29 hM, _, ⟨s_M_1287 hM, by decide⟩, by omega, _, rr_M_1287 hM (by omega), _, r_M_22 hM, _, ⟨s_M_35 hM, by decide⟩, by omega, _, rr_M_35 hM (by omega), _, ⟨sr_M_35 hM (by omega), by decide⟩, by omega, _, ⟨sr_M_1287 hM (by omega), by decide⟩, by omega, ?_⟩
                  intro I129 e_I129; subst e_I129
                  refine ⟨_, r_M_30 hM, _, ⟨s_M_1296 hM, by decide⟩, by omega, _, rr_M_1296 hM (by omega), by omega, _, rr_M_35 hM (by omega), _, ⟨sr_M_35 hM (by omega), by decide⟩, by omega, _, ⟨sr_M_1296 hM (by omega), by decide⟩, by omega, ?_⟩
                  intro I146 e_I146; subst e_I146
                  obtain ⟨K8, h8⟩ : ∃ K, K = T2d K6 a0 i j := ⟨_, rfl⟩
                  show J146 ((i : Nat) : Int) ((j : Nat) + 1 : Int) (T2d K6 a0 i j)
                  rw [← h8]
                  have h8q : ∀ q, q ≠ a0 + 1288 + i → q ≠ a0 + 1297 + i → K8 q = K6 q := fun q h1 h2 => by rw [h8]; exact T2d_q h1 h2
                  have h8k : ∀ q k, k ≠ j → K8 q k = K6 q k := fun q k h => by rw [h8]; exact T2d_k q h
                  have h8v := T2d_v (m := a0) (i := i) (j := j) (K := K6) (by omega) (hR6.2.2.2.2.1 i j (by omega) (by omega))
                  rw [← h8] at h8v
                  clear h8
                  exact ih146 _ (by omega) _ _ _ rfl (⟨j + 1, rfl, by omega, by omega, fun q hq => by rw [h8q q (by omega) (by omega)]; exact hfrK6 q hq, fun k h => by
                    rw [h8q (a0 + 8) (by omega) (by omega), h8q (a0 + 10) (by omega) (by omega), h8q (a0 + 12) (by omega) (by omega), h8q (a0 + 1344) (by omega) (by omega), h8q (a0 + 1288 + k) (by omega) (by omega), h8q (a0 + 1297 + k) (by omega) (by omega)]
                    exact hrwK6 k h, by
                    rw [h8q (a0 + 8) (by omega) (by omega), h8q (a0 + 10) (by omega) (by omega), h8q (a0 + 12) (by omega) (by omega), h8q (a0 + 1344) (by omega) (by omega)]
                    exact hkK6, fun j2 h => by
                    rcases Nat.lt_or_ge j2 j with c | c
                    · rw [h8k _ j2 (by omega), h8k _ j2 (by omega)]; exact hinK6 j2 c
                    · have : j2 = j := by omega
                      subst this
                      exact h8v⟩)
              exact L146 _ _ _ _ rfl (⟨0, rfl, rfl, by omega, fun q hq => by rw [h9q q (by omega)]; exact hfrK5 q hq, fun k h => by
                rw [h9k (a0 + 8) k (by omega), h9k (a0 + 10) k (by omega), h9k (a0 + 12) k (by omega), h9k (a0 + 1344) k (by omega), h9q (a0 + 1288 + k) (by omega), h9q (a0 + 1297 + k) (by omega)]
                exact hrwK5 k h, h9v, fun j2 h => absurd h (by omega)⟩)
          exact L91 _ _ _ rfl (⟨0, rfl, by omega, fun _ _ => rfl, fun k h => absurd h (by omega)⟩)
        · refine ⟨_, r_M_13 hM, _, r_M_12 hM, _, ⟨s_M_5 hM, by decide⟩, by omega, _, ⟨s_M_6 hM, by decide⟩, by omega, ?_⟩
          intro I31 e_I31; subst e_I31
          have L51 : ∀ (n51 : Nat) (l1 : Int) (l2 : Int) (K4 : jx_I), n51 = ((Ln L.1 : Int) - l2).toNat → (∃ j : Nat, l1 = (i : Int) ∧ l2 = (j : Int) ∧ j ≤ Ln L.1 ∧ (∀ q, (q ≠ a0 + 6 ∧ (q < a0 + 25 ∨ a0 + 35 ≤ q)) → K4 q = K2 q) ∧ (∀ k, k < i → (K4 (a0 + 6) k).toInt = Lk L.1 k ∧ ∀ j, j < Ln L.1 → (K4 (a0 + 25 + k) j).toInt = Lr L.1 k j) ∧ (K4 (a0 + 6) i).toInt = Lk L.1 i ∧ ∀ j2, j2 < j → (K4 (a0 + 25 + i) j2).toInt = Lr L.1 i j2) → J51 l1 l2 K4 := by
            intro n51
            induction n51 using Nat.strongRecOn with
            | ind n51 ih51 =>
            intro l1 l2 K4 hn51 hI51
            obtain ⟨j, rfl, rfl, hj, hfrK4, hrwK4, hkK4, hinK4⟩ := hI51
            have hR4 := RLB_x hR2 hl620 hW.1.2 (fun q hq => hfrK4 q (by unfold RDo at hq; omega))
            have hn4 : (K4 (a0 + 4) (0 : Int).toNat).toInt = (Ln L.1 : Int) := by rw [hfrK4 _ (by omega)]; show (K2 (a0 + 4) 0).toInt = _; rw [h240]; exact hR.1.1
            refine hJ51 _ _ _ ?_
            unfold wz_229_51
            refine ⟨s_M_0 hM, _, r_M_11 hM, _, ⟨s_M_4 hM, by decide⟩, by omega, by omega, ?_⟩
            refine ⟨fun hq7 => ?_, fun hq7 => ?_⟩
            · exact ih27 _ (by omega) _ _ rfl (⟨i + 1, by omega, by omega, hfrK4, fun k h => by
                rcases Nat.lt_or_ge k i with c | c
                · exact hrwK4 k c
                · have : k = i := by omega
                  subst this
                  exact ⟨hkK4, fun j2 h2 => hinK4 j2 (by omega)⟩⟩)
            · refine ⟨_, r_M_21 hM, _, ⟨s_M_24 hM, by decide⟩, by omega, _, rr_M_24 hM (by omega), _, r_M_20 hM, _, ⟨s_M_13 hM, by decide⟩, by omega, _, rr_M_13 hM (by omega), _, ⟨sr_M_13 hM (by omega), by decide⟩, by omega, _, ⟨sr_M_24 hM (by omega), by decide⟩, by omega, ?_⟩
              intro I59 e_I59; subst e_I59
              exact ih51 _ (by omega) _ _ _ rfl (⟨j + 1, rfl, by omega, by omega, fun q hq => by rw [jx_u_r _ _ _ (by omega)]; exact hfrK4 q hq, fun k h => by rw [jx_u_r _ _ _ (by omega), jx_u_r _ _ _ (by omega)]; exact hrwK4 k h, by rw [jx_u_r _ _ _ (by omega)]; exact hkK4, fun j2 h => by
                rcases Nat.lt_or_ge j2 j with c | c
                · rw [jx_u_k _ _ _ _ (by omega)]; exact hinK4 j2 c
                · have : j2 = j := by omega
                  subst this
                  show (jx_u K4 (a0 + 25 + i) j2 (Int32.ofInt (K4 (a0 + 14 + i) j2).toInt) (a0 + 25 + i) j2).toInt = _
                  rw [jx_u_s, jy_toInt (jy_rng _)]; exact hR4.2.2.1 i j2 (by omega) (by omega)⟩)
          exact L51 _ _ _ _ rfl (⟨0, rfl, rfl, by omega, fun q hq => by rw [jx_u_r _ _ _ (by omega)]; exact hfrK3 q hq, fun k h => by
            have h9 := hrwK3 k h
            rw [jx_u_k _ _ _ _ (by omega), jx_u_r _ _ _ (by omega)]
            exact h9, by
            show (jx_u K3 (a0 + 6) i (Int32.ofInt (K3 (a0 + 5) i).toInt) (a0 + 6) i).toInt = _
            rw [jx_u_s, jy_toInt (jy_rng _)]; exact hR3.2.1 i (by omega), fun j2 h => absurd h (by omega)⟩)
      exact L27 _ _ _ rfl (⟨0, rfl, by omega, fun _ _ => rfl, fun k h => absurd h (by omega)⟩)
    · refine ⟨s_M_0 hM, _, r_M_11 hM, _, r_M_10 hM, _, ⟨s_M_3 hM, by decide⟩, by omega, _, ⟨s_M_4 hM, by decide⟩, by omega, ?_⟩
      intro I13 e_I13; subst e_I13
      exact ih2 _ (by omega) _ _ rfl (⟨i + 1, by omega, by omega, fun q hq => by rw [jx_u_r _ _ _ (by omega)]; exact hfrK2 q hq, fun k h => by
        rcases Nat.lt_or_ge k i with c | c
        · rw [jx_u_k _ _ _ _ (by omega)]; exact hrwK2 k c
        · have : k = i := by omega
          subst this
          show jx_u K2 (a0 + 4) k (Int32.ofInt (K2 (a0 + 3) k).toInt) (a0 + 4) k = _
          rw [jx_u_s, Int32.ofInt_toInt, hfrK2 _ (by omega)]⟩)
  exact L2 _ _ _ rfl (⟨0, rfl, by omega, fun _ _ => rfl, fun k h => absurd h (by omega)⟩)
