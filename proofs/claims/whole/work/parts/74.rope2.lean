/-! ===== roped; the reference ropes ===== -/
theorem rop_k {l : LT} {c : CT} (hW : WT l) (hC : WC l c) (hj : CJ c ≠ []) {B : Nat} (h6 : (bl B 8).length ≤ 6) : (-1 ≤ (rop l c B).1 ∧ (rop l c B).1 ≤ 1500) ∧ (rop l c B).2.length ≤ 6 ∧ ∀ x ∈ (rop l c B).2, x < 8 := by
  have h := rsi_k hW hC hj h6 (lxp B).length
  rw [rsi_e (List.getElem?_eq_none (Nat.le_refl _))] at h
  exact h
theorem bl_ne {B : Nat} (h : B < 256) (h0 : B ≠ 0) : bl B 8 ≠ [] := by
  intro e
  apply h0
  apply Nat.eq_of_testBit_eq
  intro i
  rw [Nat.zero_testBit]
  rcases Nat.lt_or_ge i 8 with hi | hi
  · have h1 : i ∉ bl B 8 := by rw [e]; simp
    rw [bN_t]
    exact decide_eq_false (fun k => h1 (bl_mem.mpr ⟨hi, k⟩))
  · exact Nat.testBit_lt_two_pow (Nat.lt_of_lt_of_le h (Nat.pow_le_pow_right (by omega) hi : 2 ^ 8 ≤ 2 ^ i))
theorem dec6 {L : List Nat} (h : L.length ≤ 6) (h8 : ∀ x ∈ L, x < 8) : dec L < 1000000 := Nat.lt_of_lt_of_le (dec_lt L.length L rfl (fun x hx => by have := h8 x hx; omega)) (Nat.pow_le_pow_right (by omega) h : 10 ^ L.length ≤ 10 ^ 6)
/-- GrievingCamels.roped -/
theorem cz_166 {V : jx_V} (hV : V.1.stackTraces = false) {X : jx_X} {R : jx_R} {I : jx_I} {a0 : Nat} {a1 : Int} {a2 : Int} {ld : Nat} {l : LT} {c : CT} 
    (h : GX X R I a0 ld l c) (r_a1 : -2147483648 ≤ a1 ∧ a1 < 2147483648) (r_a2 : -2147483648 ≤ a2 ∧ a2 < 2147483648)
    : jc V 10 166 (3, 18) [.ref a0, jy a1, jy a2] X I R (fun rv I' => nz (a1 ≠ 0 ∧ (0 ≤ a1 ∧ a1 < ((2 ^ Lm l : Nat) : Int)) ∧ pc a1.toNat ≤ 6) 2 (nz (0 ≤ a2 ∧ a2 ≤ 1) 2 (nz (CJ c ≠ []) 3 (none))) = none ∧ rv = some (jy (roa l c a1.toNat a2)) ∧ FS a0 I I') (fun E I' => ∃ k, nz (a1 ≠ 0 ∧ (0 ≤ a1 ∧ a1 < ((2 ^ Lm l : Nat) : Int)) ∧ pc a1.toNat ≤ 6) 2 (nz (0 ≤ a2 ∧ a2 ≤ 1) 2 (nz (CJ c ≠ []) 3 (none))) = some k ∧ E = (jx_exe k).1 ∧ I' = rfs I a0 k) := by
  have hW := h.2.2.2.1
  have hW0 := hW.1
  refine wm_166 hV (by omega) (by omega)  (fun J30 hJJ => ?_)
  have hJ30 := hJJ
  have hl := GX_l h
  have hD := h.2.2.1; have hS := h.2.2.2.2.1; have hC := h.2.2.2.2.2.1; have hlo := h.2.1.2
  have h256 : 2 ^ Lm l ≤ 256 := (Nat.pow_le_pow_right (by omega) hW0.2 : 2 ^ Lm l ≤ 2 ^ 8)
  unfold wz_166
  refine ⟨fun hq1 => ?_, fun hq1 => ?_⟩
  · refine hJ30 _ _ _ ?_
    unfold wz_166_30
    refine ⟨s_GC_0 h.1, ?_⟩
    refine ⟨_, _, cz_189 hV h.1 (by omega), fun Ex Ix h9 => ⟨2, by rw [nz_f (fun k => k.1 hq1)], h9.1, h9.2.1⟩, ?_⟩
    rintro _ I20 ⟨rfl, e9, hp⟩; replace e9 := e9.symm; subst e9
    exact absurd rfl hp
  · refine ⟨s_GC_0 h.1, _, h.2.1.1, s_Land_0 hl, ?_⟩
    refine ⟨_, cz_42 hV hl hD hW0.2 (by omega), ?_⟩
    rintro _ I7 ⟨rfl, e9⟩; replace e9 := e9.symm; subst e9
    refine ⟨_, rfl, ?_⟩
    refine ⟨by omega, ?_⟩
    refine ⟨fun hq2 => ?_, fun hq2 => ?_⟩
    · have c1 := bi_f hq2
      refine hJ30 _ _ _ ?_
      unfold wz_166_30
      refine ⟨s_GC_0 h.1, ?_⟩
      refine ⟨_, _, cz_189 hV h.1 (by omega), fun Ex Ix h9 => ⟨2, by rw [nz_f (fun k => c1 k.2.1)], h9.1, h9.2.1⟩, ?_⟩
      rintro _ I20 ⟨rfl, e9, hp⟩; replace e9 := e9.symm; subst e9
      exact absurd rfl hp
    · have c1 := bi_t hq2
      have hp10 := pc_10 a1.toNat
      refine ⟨_, cz_327 (B := a1.toNat) hV (by omega) (by omega), ?_⟩
      rintro _ I12 ⟨rfl, e9⟩; replace e9 := e9.symm; subst e9
      refine ⟨_, rfl, ?_⟩
      refine ⟨by omega, ?_⟩
      refine ⟨fun hq3 => ?_, fun hq3 => ?_⟩
      · refine hJ30 _ _ _ ?_
        unfold wz_166_30
        refine ⟨s_GC_0 h.1, ?_⟩
        refine ⟨_, _, cz_189 hV h.1 (by omega), fun Ex Ix h9 => ⟨2, by rw [nz_f (fun k => by have := k.2.2; omega)], h9.1, h9.2.1⟩, ?_⟩
        rintro _ I20 ⟨rfl, e9, hp⟩; replace e9 := e9.symm; subst e9
        exact absurd rfl hp
      · have hC9 : a1 ≠ 0 ∧ (0 ≤ a1 ∧ a1 < ((2 ^ Lm l : Nat) : Int)) ∧ pc a1.toNat ≤ 6 := ⟨hq1, c1, by omega⟩
        have hB0 := bl_ne (B := a1.toNat) (by omega) (by omega)
        have h6 : (bl a1.toNat 8).length ≤ 6 := by
          have h3 : (bl a1.toNat 10).length ≤ 6 := hC9.2.2
          rw [bl_top (B := a1.toNat) (m := 8) (by omega) 10 (by omega)] at h3
          exact h3
        refine hJ30 _ _ _ ?_
        unfold wz_166_30
        refine ⟨s_GC_0 h.1, ?_⟩
        refine ⟨_, _, cz_189 hV h.1 (by omega), fun Ex Ix h9 => absurd h9.2.2 (by decide), ?_⟩
        rintro _ I20 ⟨rfl, e9, hp⟩; replace e9 := e9.symm; subst e9
        refine ⟨rfl, ?_⟩
        refine ⟨s_GC_0 h.1, ?_⟩
        refine ⟨_, _, cz_190 hV h.1 (by omega) (by omega), fun Ex Ix h9 => ⟨2, by rw [nz_t hC9]; rw [nz_f h9.2.2], h9.1, h9.2.1⟩, ?_⟩
        rintro _ I27 ⟨rfl, e9, hp2⟩; replace e9 := e9.symm; subst e9
        refine ⟨rfl, ?_⟩
        refine ⟨_, _, cz_193 hV h, fun Ex Ix h9 => ⟨3, by rw [nz_t hC9]; rw [nz_t hp2]; rw [nz_f (fun k => k h9.2.2)], h9.1, h9.2.1⟩, ?_⟩
        rintro _ I33 ⟨rfl, e9, hpJ⟩; replace e9 := e9.symm; subst e9
        refine ⟨rfl, ?_⟩
        refine ⟨_, cz_196 (B := a1.toNat) hV h hpJ (by omega) (by omega) hB0 h6, ?_⟩
        rintro _ I37 ⟨rfl, hBR, hF⟩
        refine ⟨_, rfl, ?_⟩
        have hrk := rop_k hW hC hpJ h6
        have hd6 := dec6 hrk.2.1 hrk.2.2
        refine ⟨by omega, ?_⟩
        refine ⟨fun hq4 => ?_, fun hq4 => ?_⟩
        · refine ⟨fun hq5 => ?_, fun hq5 => ?_⟩
          · refine ⟨_, r_GC_0_9 h.1, s_Row_0 (b_GC_30 h.1), ?_⟩
            refine ⟨_, cz_81 hV (b_GC_30 h.1) (hBR hq4), ?_⟩
            rintro _ I45 ⟨rfl, e9⟩; replace e9 := e9.symm; subst e9
            refine ⟨_, rfl, ?_⟩
            exact ⟨by rw [nz_t hC9, nz_t hp2, nz_t hpJ], by unfold roa; rw [if_neg (show ¬ (rop l c a1.toNat).1 = -1 by omega), if_neg (show ¬ a2 = 0 by omega), lN_i, nI_toInt (by omega)], hF⟩
          · exact ⟨by rw [nz_t hC9, nz_t hp2, nz_t hpJ], by unfold roa; rw [if_neg (show ¬ (rop l c a1.toNat).1 = -1 by omega), if_pos (show a2 = 0 by omega)], hF⟩
        · exact ⟨by rw [nz_t hC9, nz_t hp2, nz_t hpJ], by unfold roa; rw [if_pos (show (rop l c a1.toNat).1 = -1 by omega)], hF⟩
/-- may c stand behind the last one -/
def okq (fo : Nat → Nat) : Option Nat → Nat → Bool
  | none, _ => true
  | some q, c => decide (bN (fo c) q ≠ 1)
def nq (fo : Nat → Nat) : Option Nat → List Nat → Bool
  | _, [] => true
  | o, c :: t => okq fo o c && nq fo (some c) t
/-- the reference's orders: those in which none stand together that quarrel -/
def cmp (fo : Nat → Nat) : Nat → Option Nat → List Nat → List (List Nat)
  | 0, _, _ => [[]]
  | n + 1, o, B => B.flatMap (fun c => if okq fo o c = true then (cmp fo n (some c) (B.erase c)).map (c :: ·) else [])
theorem fm_congr {f g : Nat → List (List Nat)} : ∀ (B : List Nat), (∀ c ∈ B, f c = g c) → B.flatMap f = B.flatMap g
  | [], _ => rfl
  | b :: B, h => by rw [List.flatMap_cons, List.flatMap_cons, h b (by simp), fm_congr B (fun c hc => h c (List.mem_cons_of_mem _ hc))]
theorem fm_filter {f : Nat → List (List Nat)} {P : List Nat → Bool} : ∀ (B : List Nat), (B.flatMap f).filter P = B.flatMap (fun c => (f c).filter P)
  | [] => rfl
  | b :: B => by rw [List.flatMap_cons, List.flatMap_cons, List.filter_append, fm_filter B]
theorem cmp_f {fo : Nat → Nat} : ∀ (n : Nat) (o : Option Nat) (B : List Nat), cmp fo n o B = (lexp n B).filter (nq fo o)
  | 0, o, B => by
    show [[]] = List.filter (nq fo o) [[]]
    have e : nq fo o [] = true := by cases o <;> rfl
    simp [e]
  | n + 1, o, B => by
    show B.flatMap _ = (B.flatMap _).filter (nq fo o)
    rw [fm_filter]
    apply fm_congr
    intro c _
    rw [List.filter_map, cmp_f n (some c) (B.erase c)]
    have e : (nq fo o ∘ fun x => c :: x) = fun x => okq fo o c && nq fo (some c) x := by
      funext x
      show nq fo o (c :: x) = _
      cases o <;> rfl
    rw [e]
    by_cases h : okq fo o c = true
    · rw [if_pos h, h]
      simp only [Bool.true_and]
    · rw [if_neg h, Bool.eq_false_iff.mpr h]
      simp
theorem nq_iff {fo : Nat → Nat} : ∀ (L : List Nat) (q : Nat), nq fo (some q) L = true ↔ ∀ i, i < L.length → bN (fo ((q :: L).getD (i + 1) 0)) ((q :: L).getD i 0) ≠ 1
  | [], q => ⟨fun _ i hi => absurd hi (by simp), fun _ => rfl⟩
  | c :: L, q => by
    show (okq fo (some q) c && nq fo (some c) L) = true ↔ _
    rw [Bool.and_eq_true, nq_iff L c]
    constructor
    · rintro ⟨h1, h2⟩ i hi
      cases i with
      | zero => exact of_decide_eq_true h1
      | succ i => exact h2 i (by simp only [List.length_cons] at hi; omega)
    · intro h
      exact ⟨decide_eq_true (h 0 (by simp)), fun i hi => h (i + 1) (by simp only [List.length_cons]; omega)⟩
theorem qn_0 {fo : Nat → Nat} {L : List Nat} : ∀ k, qn fo L k = 0 ↔ ∀ i, i < k → bN (fo (L.getD i 0)) (L.getD (i + 1) 0) = 0
  | 0 => ⟨fun _ i hi => absurd hi (by omega), fun _ => rfl⟩
  | k + 1 => by
    have h := qn_0 (fo := fo) (L := L) k
    show qn fo L k + bN (fo (L.getD k 0)) (L.getD (k + 1) 0) = 0 ↔ _
    constructor
    · intro e i hi
      rcases Nat.lt_or_ge i k with h1 | h1
      · exact h.mp (by omega) i h1
      · rw [show i = k by omega]; omega
    · intro e
      have h1 := h.mpr (fun i hi => e i (by omega))
      have h2 := e k (by omega)
      omega
theorem nq_qn {l : LT} (hW : WT l) {L : List Nat} (hL : ∀ x ∈ L, x < Lm l) : nq (Lf l) none L = true ↔ qn (Lf l) L (L.length - 1) = 0 := by
  cases L with
  | nil => exact ⟨fun _ => rfl, fun _ => rfl⟩
  | cons q L =>
    have e : nq (Lf l) none (q :: L) = nq (Lf l) (some q) L := by
      show (true && nq (Lf l) (some q) L) = _
      rw [Bool.true_and]
    rw [e, nq_iff, qn_0]
    have hm : ∀ i, i < (q :: L).length → (q :: L).getD i 0 < Lm l := fun i hi => hL _ (gd_mem hi)
    have hs : ∀ i, i < L.length → bN (Lf l ((q :: L).getD (i + 1) 0)) ((q :: L).getD i 0) = bN (Lf l ((q :: L).getD i 0)) ((q :: L).getD (i + 1) 0) := fun i hi => hW.2.2.2.2.1 _ _ (hm _ (by simp only [List.length_cons]; omega)) (hm _ (by simp only [List.length_cons]; omega))
    show _ ↔ ∀ i, i < L.length → _
    constructor
    · intro h i hi
      have h1 := h i hi
      rw [hs i hi] at h1
      have := bN_01 (Lf l ((q :: L).getD i 0)) ((q :: L).getD (i + 1) 0)
      omega
    · intro h i hi
      rw [hs i hi, h i hi]; decide
/-- the reference tries an order -/
def rs1 (l : LT) (c : CT) (s : Int × Int) (L : List Nat) : Int × Int := if s.1 = -1 ∨ hrs l (CJ c) L (Cg c) (Cd c) < s.1 then (hrs l (CJ c) L (Cg c) (Cd c), (dec L : Int)) else s
theorem rs1_k {l : LT} {c : CT} (hW : WT l) (hC : WC l c) (hj : CJ c ≠ []) {f : List Nat → List Nat} : ∀ (Ls : List (List Nat)) (s : Int × Int), (-1 ≤ s.1 ∧ s.1 ≤ 1500) → -1 ≤ (Ls.foldl (fun s L => rs1 l c s (f L)) s).1 ∧ (Ls.foldl (fun s L => rs1 l c s (f L)) s).1 ≤ 1500
  | [], s, hs => hs
  | L :: Ls, s, hs => by
    rw [List.foldl_cons]
    apply rs1_k hW hC hj Ls
    have hr := hrs_rng hW (WC_J hC hj).2.1 (WC_J hC hj).1.2 (f L) (Cg c) (Cd c)
    unfold rs1
    split
    · show -1 ≤ hrs l (CJ c) (f L) (Cg c) (Cd c) ∧ hrs l (CJ c) (f L) (Cg c) (Cd c) ≤ 1500; omega
    · exact hs
theorem rs1_rst {l : LT} {c : CT} (hW : WT l) (hC : WC l c) (hj : CJ c ≠ []) : ∀ (Ls : List (List Nat)) (s : Int × Int) (s2 : Int × List Nat), (∀ L ∈ Ls, ∀ x ∈ L, x < Lm l) → -1 ≤ s.1 → s.1 = s2.1 → (s.1 ≠ -1 → s.2 = (dec s2.2 : Int)) → ((Ls.filter (nq (Lf l) none)).foldl (rs1 l c) s).1 = (Ls.foldl (rst l c) s2).1 ∧ (((Ls.filter (nq (Lf l) none)).foldl (rs1 l c) s).1 ≠ -1 → ((Ls.filter (nq (Lf l) none)).foldl (rs1 l c) s).2 = (dec (Ls.foldl (rst l c) s2).2 : Int))
  | [], s, s2, _, _, h1, h2 => ⟨h1, h2⟩
  | L :: Ls, s, s2, hm, h0, h1, h2 => by
    have hr := hrs_rng hW (WC_J hC hj).2.1 (WC_J hC hj).1.2 L (Cg c) (Cd c)
    have hq := nq_qn hW (hm L (by simp))
    rw [List.foldl_cons]
    by_cases e : nq (Lf l) none L = true
    · rw [List.filter_cons_of_pos e, List.foldl_cons]
      have hq2 := hq.mp e
      by_cases e2 : s.1 = -1 ∨ hrs l (CJ c) L (Cg c) (Cd c) < s.1
      · have a1 : rs1 l c s L = (hrs l (CJ c) L (Cg c) (Cd c), (dec L : Int)) := if_pos e2
        have a2 : rst l c s2 L = (hrs l (CJ c) L (Cg c) (Cd c), L) := rst_y ⟨hq2, by omega⟩
        rw [a1, a2]
        exact rs1_rst hW hC hj Ls _ _ (fun L hL => hm L (List.mem_cons_of_mem _ hL)) (by show -1 ≤ hrs l (CJ c) L (Cg c) (Cd c); omega) rfl (fun _ => rfl)
      · have a1 : rs1 l c s L = s := if_neg e2
        have a2 : rst l c s2 L = s2 := rst_n (fun k => by omega)
        rw [a1, a2]
        exact rs1_rst hW hC hj Ls _ _ (fun L hL => hm L (List.mem_cons_of_mem _ hL)) h0 h1 h2
    · rw [List.filter_cons_of_neg e]
      have a2 : rst l c s2 L = s2 := rst_n (fun k => e (hq.mpr k.1))
      rw [a2]
      exact rs1_rst hW hC hj Ls _ _ (fun L hL => hm L (List.mem_cons_of_mem _ hL)) h0 h1 h2
theorem bl_er {B c : Nat} : bl (bdf B (2 ^ c)) 8 = (bl B 8).erase c := by
  rw [List.Nodup.erase_eq_filter (bl_nd B 8)]
  unfold bl
  rw [List.filter_filter]
  apply List.filter_congr
  intro x _
  rw [bdf_t, Nat.testBit_two_pow, Bool.and_comm]
  congr 1
  by_cases e : c = x
  · subst e; simp
  · rw [decide_eq_false e]
    have : x ≠ c := fun k => e k.symm
    simp [this]
theorem fo_fm {f : Nat → List (List Nat)} {g : (Int × Int) → List Nat → Int × Int} (A : List Nat) (x : Nat) (s : Int × Int) : ((A ++ [x]).flatMap f).foldl g s = (f x).foldl g ((A.flatMap f).foldl g s) := by
  rw [List.flatMap_append, List.foldl_append, List.flatMap_cons, List.flatMap_nil, List.append_nil]
