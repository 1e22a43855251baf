/-! ===== the reference within a step ===== -/
/-- a step's row so far: kind, number, test -/
def RA (K : jx_I) (m n t v : Nat) (k : Int) (a : PA) : Prop := ((K (m + 1493 + n) 0).toInt = k ∧ (K (m + 1493 + n) 1).toInt = a.1 ∧ (K (m + 1493 + n) 2).toInt = (t : Int)) ∧ (∀ (i : Nat) (e : TE), a.2.1[i]? = some e → RT1 K m (t + i) e) ∧ ∀ (i : Nat) (e : VA), a.2.2.1[i]? = some e → RV1 K m (v + i) e
/-- .. behind its word and what belongs to it -/
def RP5 (I K : jx_I) (m : Nat) (T : List Int) (o n t v : Nat) (k : Int) (z : PX PA) : Prop := FP m KS n t v I K ∧ RST K m T (z.bind (fun a => .ok a.2.2.2)) ∧ ∀ a, z = .ok a → RA K m n t v k a ∧ RPC K m o (n + 1) (t + a.2.1.length) (v + a.2.2.1.length)
/-- .. behind its first block -/
def RP6 (I K : jx_I) (m : Nat) (T : List Int) (o n t v : Nat) (k : Int) (z : PX PA) (rec : PRC) : Prop := FP m KS n t v I K ∧ RST K m T (z.bind (fun a => (pBlk T rec o a.2.2.2 (n + 1) (t + a.2.1.length) (v + a.2.2.1.length)).bind (fun b => .ok b.2.2.2))) ∧ ∀ a b, z = .ok a → pBlk T rec o a.2.2.2 (n + 1) (t + a.2.1.length) (v + a.2.2.1.length) = .ok b → RA K m n t v k a ∧ RPC K m o (n + 1 + b.1.length) (t + a.2.1.length + b.2.1.length) (v + a.2.2.1.length + b.2.2.1.length) ∧ RPR K m (n + 1) (t + a.2.1.length) (v + a.2.2.1.length) b
/-- .. all but where it ends -/
def RPX (I K : jx_I) (m : Nat) (T : List Int) (o n t v : Nat) (y : PX PS) : Prop := FP m KS n t v I K ∧ RST K m T (y.bind (fun a => .ok a.2.2.2)) ∧ ∀ r, y = .ok r → ∃ (e : SP) (B : List SP), r.1 = e :: B ∧ e.2.2.2.2 = n + r.1.length ∧ ((K (m + 1493 + n) 0).toInt = (e.1 : Int) ∧ (K (m + 1493 + n) 1).toInt = e.2.1 ∧ (K (m + 1493 + n) 2).toInt = (e.2.2.1 : Int) ∧ (K (m + 1493 + n) 3).toInt = (e.2.2.2.1 : Int)) ∧ RPC K m o (n + r.1.length) (t + r.2.1.length) (v + r.2.2.1.length) ∧ RPR K m (n + 1) t v (B, r.2.1, r.2.2.1, 0)
/-- the row's field j becomes w -/
abbrev rw4 (K : jx_I) (m n j : Nat) (w : Int) : jx_I := jx_u K (m + 1493 + n) j (Int32.ofInt w)
theorem rw4_k {K : jx_I} {m n j i : Nat} {w : Int} (h : i ≠ j) : rw4 K m n j w (m + 1493 + n) i = K (m + 1493 + n) i := jx_u_k _ _ _ _ h
theorem rw4_q {K : jx_I} {m n j q : Nat} {w : Int} (h : q ≠ m + 1493 + n) : rw4 K m n j w q = K q := jx_u_r _ _ _ h
theorem RA_w {K : jx_I} {m n t v j : Nat} {k w : Int} {a : PA} (h : RA K m n t v k a) (hj : 3 ≤ j) (hn : n < 120) (ht : t + a.2.1.length ≤ 120) (hv : v + a.2.2.1.length ≤ 160) : RA (rw4 K m n j w) m n t v k a := by
  refine ⟨?_, fun i e he => RT1_e (h.2.1 i e he) (rw4_q (by omega)), fun i e he => RV1_e (h.2.2 i e he) (rw4_q (by omega))⟩
  rw [rw4_k (by omega), rw4_k (by omega), rw4_k (by omega)]
  exact h.1
theorem RPR_w {K : jx_I} {m n t v j : Nat} {w : Int} {r : PS} (h : RPR K m (n + 1) t v r) (hn : n < 120) : RPR (rw4 K m n j w) m (n + 1) t v r := ⟨fun i e he => RS1_e (h.1 i e he) (rw4_q (by omega)), fun i e he => RT1_e (h.2.1 i e he) (rw4_q (by omega)), fun i e he => RV1_e (h.2.2 i e he) (rw4_q (by omega))⟩
/-- the step without a block -/
def pS0 (n t : Nat) (k : Int) (a : PA) : PS := ([(k.toNat, a.1, t, n + 1, n + 1)], a.2.1, a.2.2.1, a.2.2.2)
/-- .. with one -/
def pS1 (n t : Nat) (k : Int) (a : PA) (b : PS) : PS := ((k.toNat, a.1, t, n + 1 + b.1.length, n + 1 + b.1.length) :: b.1, a.2.1 ++ b.2.1, a.2.2.1 ++ b.2.2.1, b.2.2.2)
theorem RP5_X {I K : jx_I} {m : Nat} {T : List Int} {o n t v : Nat} {k w : Int} {z : PX PA} (h : RP5 I K m T o n t v k z) (hk : 0 ≤ k) (hn : n < 119) (ht : ∀ a, z = .ok a → t + a.2.1.length ≤ 120) (hv : ∀ a, z = .ok a → v + a.2.2.1.length ≤ 160) (hw : w = (K m 57).toInt) : RPX I (rw4 K m n 3 w) m T o n t v (z.bind (fun a => .ok (pS0 n t k a))) := by
  subst hw
  obtain ⟨hF, hS, hz⟩ := h
  refine ⟨FP_s hF (by omega), ?_, ?_⟩
  · cases z with
    | error e => exact RER_w hS (by omega)
    | ok a => exact ROK_w hS (by omega)
  · intro r hr
    cases z with
    | error e => cases hr
    | ok a =>
      cases hr
      obtain ⟨g1, g2⟩ := hz a rfl
      have h57 := g2.1
      refine ⟨_, [], rfl, rfl, ⟨?_, ?_, ?_, ?_⟩, RPC_w g2 (by omega), ?_⟩
      · rw [rw4_k (by omega), g1.1.1]; show k = ((k.toNat : Nat) : Int); omega
      · rw [rw4_k (by omega)]; exact g1.1.2.1
      · rw [rw4_k (by omega)]; exact g1.1.2.2
      · rw [show (rw4 K m n 3 (K m 57).toInt (m + 1493 + n) 3) = Int32.ofInt (K m 57).toInt from jx_u_s .., jy_toInt (jy_rng _)]; exact h57
      · exact ⟨fun i e he => (by cases he), fun i e he => RT1_e (g1.2.1 i e he) (rw4_q (by have := gi_lt he; have := ht a rfl; omega)), fun i e he => RV1_e (g1.2.2 i e he) (rw4_q (by omega))⟩
theorem RP6_X {I K : jx_I} {m : Nat} {T : List Int} {o n t v : Nat} {k w : Int} {z : PX PA} {rec : PRC} (h : RP6 I K m T o n t v k z rec) (hk : 0 ≤ k) (hn : n < 119) (hw : w = (K m 57).toInt) : RPX I (rw4 K m n 3 w) m T o n t v (z.bind (fun a => (pBlk T rec o a.2.2.2 (n + 1) (t + a.2.1.length) (v + a.2.2.1.length)).bind (fun b => .ok (pS1 n t k a b)))) := by
  subst hw
  obtain ⟨hF, hS, hz⟩ := h
  refine ⟨FP_s hF (by omega), ?_, ?_⟩
  · cases z with
    | error e => exact RER_w hS (by omega)
    | ok a =>
      replace hS : RST K m T ((pBlk T rec o a.2.2.2 (n + 1) (t + a.2.1.length) (v + a.2.2.1.length)).bind (fun b => .ok b.2.2.2)) := hS
      show RST _ m T (((pBlk T rec o a.2.2.2 (n + 1) (t + a.2.1.length) (v + a.2.2.1.length)).bind (fun b => .ok (pS1 n t k a b))).bind (fun a => .ok a.2.2.2))
      cases hb : pBlk T rec o a.2.2.2 (n + 1) (t + a.2.1.length) (v + a.2.2.1.length) with
      | error e => rw [hb] at hS; exact RER_w hS (by omega)
      | ok b => rw [hb] at hS; exact ROK_w hS (by omega)
  · intro r hr
    obtain ⟨a, ha, hr⟩ := px_ok hr
    obtain ⟨b, hb, hr⟩ := px_ok hr
    cases hr
    obtain ⟨g1, g2, g3⟩ := hz a b ha hb
    have h57 := g2.1
    refine ⟨_, b.1, rfl, ?_, ⟨?_, ?_, ?_, ?_⟩, ?_, ?_⟩
    · show n + 1 + b.1.length = n + (b.1.length + 1); omega
    · rw [rw4_k (by omega), g1.1.1]; show k = ((k.toNat : Nat) : Int); omega
    · rw [rw4_k (by omega)]; exact g1.1.2.1
    · rw [rw4_k (by omega)]; exact g1.1.2.2
    · rw [show (rw4 K m n 3 (K m 57).toInt (m + 1493 + n) 3) = Int32.ofInt (K m 57).toInt from jx_u_s .., jy_toInt (jy_rng _)]; exact h57
    · have h9 := RPC_w (q := m + 1493 + n) (k := 3) (x := Int32.ofInt (K m 57).toInt) g2 (by omega)
      show RPC _ m o (n + (b.1.length + 1)) (t + (a.2.1 ++ b.2.1).length) (v + (a.2.2.1 ++ b.2.2.1).length)
      rw [List.length_append, List.length_append, ← Nat.add_assoc t, ← Nat.add_assoc v, show n + (b.1.length + 1) = n + 1 + b.1.length by omega]
      exact h9
    · have h8 : RPR (rw4 K m n 3 (K m 57).toInt) m (n + 1) t v ([], a.2.1, a.2.2.1, 0) := ⟨fun i e he => (by cases he), fun i e he => RT1_e (g1.2.1 i e he) (rw4_q (by omega)), fun i e he => RV1_e (g1.2.2 i e he) (rw4_q (by omega))⟩
      exact RPR_app (q2 := 0) h8 (RPR_w g3 (by omega)) rfl rfl rfl
/-- the end of a step: where it ends, the ; -/
theorem RPX_end {I K K2 : jx_I} {m : Nat} {T : List Int} {o n t v : Nat} {w : Int} {y : PX PS} (h : RPX I K m T o n t v y) (hn : n < 119) (hw : w = (K m 57).toInt) (hF2 : FO m [4, 5, 6] (rw4 K m n 4 w) K2) (hS2 : RST K2 m T ((y.bind (fun a => .ok a.2.2.2)).bind (pSgn T 59))) : RPS K2 m T o n t v (y.bind (pSem T)) ∧ FP m KS n t v I K2 := by
  subst hw
  obtain ⟨hF, hS, hz⟩ := h
  refine ⟨?_, FP_trans (FP_s hF (by omega)) (FP_o hF2 (by decide))⟩
  cases y with
  | error e => exact hS2
  | ok r =>
    obtain ⟨e, B, h1, h2, h3, h4, h5⟩ := hz r rfl
    replace hS2 : RST K2 m T (pSgn T 59 r.2.2.2) := hS2
    show RPS K2 m T o n t v ((pSgn T 59 r.2.2.2).bind (fun q => .ok (r.1, r.2.1, r.2.2.1, q)))
    unfold pSgn at hS2 ⊢
    split
    · rename_i h59
      rw [if_pos h59] at hS2
      have hP := RPC_o (RPC_w (q := m + 1493 + n) (k := 4) (x := Int32.ofInt (K m 57).toInt) h4 (by omega)) hF2 (by decide)
      refine ⟨hS2, hP, ?_, ?_, ?_⟩
      · show ∀ (i : Nat) (x : SP), r.1[i]? = some x → _
        rw [h1]
        intro i x hx
        cases i with
        | zero =>
          cases hx
          refine ⟨?_, ?_, ?_, ?_, ?_⟩
          · rw [hF2.1 _ (by omega)]; show (rw4 K m n 4 _ (m + 1493 + n) 0).toInt = _; rw [rw4_k (by omega)]; exact h3.1
          · rw [hF2.1 _ (by omega)]; show (rw4 K m n 4 _ (m + 1493 + n) 1).toInt = _; rw [rw4_k (by omega)]; exact h3.2.1
          · rw [hF2.1 _ (by omega)]; show (rw4 K m n 4 _ (m + 1493 + n) 2).toInt = _; rw [rw4_k (by omega)]; exact h3.2.2.1
          · rw [hF2.1 _ (by omega)]; show (rw4 K m n 4 _ (m + 1493 + n) 3).toInt = _; rw [rw4_k (by omega)]; exact h3.2.2.2
          · rw [hF2.1 _ (by omega)]
            show (rw4 K m n 4 _ (m + 1493 + n) 4).toInt = _
            rw [show (rw4 K m n 4 (K m 57).toInt (m + 1493 + n) 4) = Int32.ofInt (K m 57).toInt from jx_u_s .., jy_toInt (jy_rng _), h4.1, h2]
        | succ i =>
          have h9 := h5.1 i x hx
          rw [show n + 1 + i = n + (i + 1) by omega] at h9
          exact RS1_e h9 (by rw [hF2.1 _ (by omega), rw4_q (by omega)])
      · intro i x hx
        exact RT1_e (h5.2.1 i x hx) (by rw [hF2.1 _ (by omega), rw4_q (by omega)])
      · intro i x hx
        exact RV1_e (h5.2.2 i x hx) (by rw [hF2.1 _ (by omega), rw4_q (by omega)])
    · rename_i h59
      rw [if_neg h59] at hS2
      exact hS2
/-- .. with the block behind else -/
theorem RPX_c {I K K1 K3 : jx_I} {m : Nat} {T : List Int} {o n t v n3 t3 v3 : Nat} {r : PS} {e : SP} {B : List SP} {yc : PX PS} (h : RPX I K m T o n t v (.ok r)) (hr : r.1 = e :: B) (hn : n < 119) (h3 : n3 = n + r.1.length ∧ t3 = t + r.2.1.length ∧ v3 = v + r.2.2.1.length) (hb : n3 ≤ 120 ∧ t3 ≤ 120 ∧ v3 ≤ 160) (hF1 : FO m [4] K K1) (hS : RPS K3 m T o n3 t3 v3 yc) (hF3 : FP m KS n3 t3 v3 K1 K3) : RPX I K3 m T o n t v (yc.bind (fun c => .ok ((e.1, e.2.1, e.2.2.1, e.2.2.2.1, n3 + c.1.length) :: (B ++ c.1), r.2.1 ++ c.2.1, r.2.2.1 ++ c.2.2.1, c.2.2.2))) := by
  obtain ⟨e1, e2, e3⟩ := h3
  subst e1; subst e2; subst e3
  obtain ⟨hF, _, hz⟩ := h
  have hF13 : FP m KS (n + r.1.length) (t + r.2.1.length) (v + r.2.2.1.length) K K3 := FP_trans (FP_o hF1 (by decide)) hF3
  refine ⟨FP_trans hF (FP_mono hF13 (fun _ h => h) (by omega) (by omega) (by omega)), ?_, ?_⟩
  · cases yc with
    | error e => exact hS
    | ok c => exact hS.1
  · intro r2 hr2
    obtain ⟨c, hc, hr2⟩ := px_ok hr2
    cases hr2
    subst hc
    obtain ⟨e', B', g1, g2, g3, g4, g5⟩ := hz r rfl
    rw [hr] at g1
    obtain ⟨rfl, rfl⟩ := List.cons.inj g1
    have hrow : K3 (m + 1493 + n) = K (m + 1493 + n) := (FP_rows hF13).1 n (by rw [hr, List.length_cons]; omega) (by omega)
    have hl1 : r.1.length = B.length + 1 := by rw [hr, List.length_cons]
    refine ⟨_, B ++ c.1, rfl, ?_, ?_, ?_, ?_⟩
    · show n + r.1.length + c.1.length = n + ((B ++ c.1).length + 1); rw [List.length_append]; omega
    · rw [hrow]; exact g3
    · have h9 := hS.2.1
      show RPC K3 m o (n + ((B ++ c.1).length + 1)) (t + (r.2.1 ++ c.2.1).length) (v + (r.2.2.1 ++ c.2.2.1).length)
      rw [List.length_append, List.length_append, List.length_append, ← Nat.add_assoc t, ← Nat.add_assoc v, show n + (B.length + c.1.length + 1) = n + r.1.length + c.1.length by omega]
      exact h9
    · have h9 := RPR_f g5 hF13 ⟨by show n + 1 + B.length ≤ _; omega, hb.1⟩ ⟨Nat.le_refl _, hb.2.1⟩ ⟨Nat.le_refl _, hb.2.2⟩
      exact RPR_app (q := 0) (q2 := 0) h9 (show RPR K3 m (n + r.1.length) (t + r.2.1.length) (v + r.2.2.1.length) (c.1, c.2.1, c.2.2.1, 0) from hS.2.2) (by show _ = n + 1 + B.length; omega) rfl rfl
/-- a step's number was read -/
theorem RP5_n {I K K2 : jx_I} {m : Nat} {T : List Int} {o n t v q : Nat} {k lo hi r : Int} (hF : FP m KS n t v I K) (hR : (K (m + 1493 + n) 0).toInt = k ∧ (K (m + 1493 + n) 2).toInt = (t : Int)) (hP : RPC K m o (n + 1) t v) (hn : n < 119) (hq : q ≤ T.length) (hlo : lo = 0) (hhi : hi ≤ 999) (hB : RNB K2 m T q lo hi r (-1)) (hF2 : FO m [4, 5, 6] K K2) : RP5 I (rw4 K2 m n 1 r) m T o n t v k ((pNum T lo hi q).bind (fun r => .ok (r.1, [], [], r.2))) := by
  refine ⟨FP_s (FP_trans hF (FP_o hF2 (by decide))) (by omega), ?_, ?_⟩
  · rcases RNB_p hq hB with ⟨q2, h1, h2⟩ | ⟨e, h1, h2⟩
    · rw [h1]; exact ROK_w h2 (by omega)
    · rw [h1]; exact RER_w h2 (by omega)
  · intro a ha
    obtain ⟨x, hx, ha⟩ := px_ok ha
    cases ha
    have hxr := pNum_ok hq hx
    have hr : r = x.1 := by
      rcases RNB_p hq hB with ⟨q2, h1, h2⟩ | ⟨e, h1, h2⟩
      · rw [h1] at hx; cases hx; rfl
      · rw [h1] at hx; cases hx
    refine ⟨⟨⟨?_, ?_, ?_⟩, fun i e he => (by cases he), fun i e he => (by cases he)⟩, RPC_w (RPC_o hP hF2 (by decide)) (by omega)⟩
    · rw [rw4_k (by omega), hF2.1 _ (by omega)]; exact hR.1
    · rw [show (rw4 K2 m n 1 r (m + 1493 + n) 1) = Int32.ofInt r from jx_u_s .., jy_toInt (by omega)]; exact hr
    · rw [rw4_k (by omega), hF2.1 _ (by omega)]; exact hR.2
/-- a step's test was read -/
theorem RP5_t {I K K2 : jx_I} {m : Nat} {T : List Int} {o n t v q lm : Nat} {k : Int} (hF : FP m KS n t v I K) (hR : (K (m + 1493 + n) 0).toInt = k ∧ (K (m + 1493 + n) 1).toInt = 0 ∧ (K (m + 1493 + n) 2).toInt = (t : Int)) (hP : RPC K m o (n + 1) t v) (hn : n < 119) (hB : RTT K2 m T t v (pTest T lm q v)) (hF2 : FP m [4, 5, 6, 58, 59] 120 t v K K2) : RP5 I K2 m T o n t v k ((pTest T lm q v).bind (fun r => .ok (0, [r.1], r.2.1, r.2.2))) := by
  refine ⟨FP_trans hF (FP_mono hF2 (by decide) (by omega) (Nat.le_refl _) (Nat.le_refl _)), ?_, ?_⟩
  · cases hy : pTest T lm q v with
    | error e => rw [hy] at hB; exact hB
    | ok r => rw [hy] at hB; exact hB.1
  · intro a ha
    obtain ⟨x, hx, ha⟩ := px_ok ha
    cases ha
    rw [hx] at hB
    have hrow : K2 (m + 1493 + n) = K (m + 1493 + n) := hF2.1 _ (by omega) (by omega) (by omega) (by omega)
    refine ⟨⟨by rw [hrow]; exact hR, fun i e he => ?_, hB.2.2.1⟩, ⟨?_, hB.2.2.2.1, hB.2.2.2.2, ?_⟩⟩
    · cases i with
      | zero => cases he; exact hB.2.1
      | succ i => cases he
    · rw [hF2.2 57 (by decide)]; exact hP.1
    · rw [hF2.2 25 (by decide)]; exact hP.2.2.2
/-- a step's first block was read -/
theorem RP5_b {I K K2 : jx_I} {m : Nat} {T : List Int} {o n t v : Nat} {k : Int} {z : PX PA} {rec : PRC} {a0 : PA} (h : RP5 I K m T o n t v k z) (ha : ∀ a, z = .ok a → a = a0) (hb : n < 119 ∧ (∀ a, z = .ok a → t + a.2.1.length ≤ 120 ∧ v + a.2.2.1.length ≤ 160)) (hS : RPS K2 m T o (n + 1) (t + a0.2.1.length) (v + a0.2.2.1.length) ((z.bind (fun a => .ok a.2.2.2)).bind (fun q => pBlk T rec o q (n + 1) (t + a0.2.1.length) (v + a0.2.2.1.length)))) (hF2 : FP m KS (n + 1) (t + a0.2.1.length) (v + a0.2.2.1.length) K K2) : RP6 I K2 m T o n t v k z rec := by
  obtain ⟨hF, hT, hz⟩ := h
  refine ⟨FP_trans hF (FP_mono hF2 (fun _ h => h) (by omega) (by omega) (by omega)), ?_, ?_⟩
  · cases z with
    | error e => exact hS
    | ok a =>
      have := ha a rfl
      subst this
      exact RPS_r hS
  · intro a b hza hbl
    subst hza
    have := ha a rfl
    subst this
    have hb2 := hb.2 a rfl
    replace hS : RPS K2 m T o (n + 1) (t + a.2.1.length) (v + a.2.2.1.length) (pBlk T rec o a.2.2.2 (n + 1) (t + a.2.1.length) (v + a.2.2.1.length)) := hS
    rw [hbl] at hS
    obtain ⟨g1, g2⟩ := hz a rfl
    obtain ⟨f1, f2, f3⟩ := FP_rows hF2
    refine ⟨⟨by rw [f1 n (by omega) (by omega)]; exact g1.1, fun i e he => RT1_e (g1.2.1 i e he) (f2 _ (by have := gi_lt he; omega) (by have := gi_lt he; omega)), fun i e he => RV1_e (g1.2.2 i e he) (f3 _ (by have := gi_lt he; omega) (by have := gi_lt he; omega))⟩, hS.2.1, hS.2.2⟩
