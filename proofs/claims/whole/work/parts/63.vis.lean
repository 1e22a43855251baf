/-! ===== places visited: walks and chains ===== -/
theorem bo_cons (y : Nat) (L : List Nat) : bo (y :: L) = bo L ||| 2 ^ y := by
  apply Nat.eq_of_testBit_eq
  intro i
  rw [bo_t, Nat.testBit_or, bo_t, Nat.testBit_two_pow]
  have h : (i ∈ y :: L) ↔ (i ∈ L ∨ y = i) := by
    rw [List.mem_cons]
    exact ⟨fun h => h.elim (fun h => Or.inr h.symm) Or.inl, fun h => h.elim Or.inr (fun h => Or.inl h.symm)⟩
  rw [decide_eq_decide.mpr h, Bool.decide_or]
theorem bo_ext {L M : List Nat} (h : ∀ z, z ∈ L ↔ z ∈ M) : bo L = bo M := by
  apply Nat.eq_of_testBit_eq
  intro i
  rw [bo_t, bo_t]
  exact decide_eq_decide.mpr (h i)
/-- walks from f by roads, the last place first; their hours -/
def rwk (l : LT) (f : Nat) : List Nat → Prop
  | [] => False
  | [x] => x = f
  | y :: x :: M => y < Ln l ∧ Lr l x y ≠ 0 ∧ rwk l f (x :: M)
def rww (l : LT) (h : Nat → Int) : List Nat → Int
  | [] => 0
  | [_] => 0
  | y :: x :: M => Lr l x y + h y + rww l h (x :: M)
/-- chains of unlike places from f, the last place first; their hours -/
def rcd (l : LT) (h : Nat → Int) (f : Nat) : List Nat → Prop
  | [] => False
  | [x] => x = f
  | y :: x :: M => y < Ln l ∧ y ∉ (x :: M) ∧ dst l h x y ≠ -1 ∧ rcd l h f (x :: M)
noncomputable def rcw (l : LT) (h : Nat → Int) : List Nat → Int
  | [] => 0
  | [_] => 0
  | y :: x :: M => dst l h x y + rcw l h (x :: M)
theorem rwk_lt {l : LT} {f : Nat} (hf : f < Ln l) : ∀ (M : List Nat) (a : Nat), rwk l f (a :: M) → (∀ z ∈ a :: M, z < Ln l) ∧ f ∈ a :: M
  | [], a, ha => by
    have e : a = f := ha
    exact ⟨fun z hz => by rw [List.mem_singleton.mp hz, e]; exact hf, by rw [e]; simp⟩
  | x :: M, a, ha => by
    have h2 := rwk_lt hf M x ha.2.2
    refine ⟨fun z hz => ?_, List.mem_cons_of_mem _ h2.2⟩
    rcases List.mem_cons.mp hz with h3 | h3
    · rw [h3]; exact ha.1
    · exact h2.1 z h3
theorem rcd_lt {l : LT} {h : Nat → Int} {f : Nat} (hf : f < Ln l) : ∀ (M : List Nat) (a : Nat), rcd l h f (a :: M) → (∀ z ∈ a :: M, z < Ln l) ∧ f ∈ a :: M
  | [], a, ha => by
    have e : a = f := ha
    exact ⟨fun z hz => by rw [List.mem_singleton.mp hz, e]; exact hf, by rw [e]; simp⟩
  | x :: M, a, ha => by
    have h2 := rcd_lt hf M x ha.2.2.2
    refine ⟨fun z hz => ?_, List.mem_cons_of_mem _ h2.2⟩
    rcases List.mem_cons.mp hz with h3 | h3
    · rw [h3]; exact ha.1
    · exact h2.1 z h3
theorem rww_0 {l : LT} {h : Nat → Int} {f : Nat} (hW : WT l) (hH : HP l h) (hf : f < Ln l) : ∀ (M : List Nat) (a : Nat), rwk l f (a :: M) → 0 ≤ rww l h (a :: M)
  | [], _, _ => Int.le_refl _
  | x :: M, a, ha => by
    have h2 := rww_0 hW hH hf M x ha.2.2
    have h3 := ie_1 hW ((rwk_lt hf M x ha.2.2).1 x (by simp)) ha.1 ha.2.1
    have h4 := hH a ha.1
    show 0 ≤ Lr l x a + h a + rww l h (x :: M)
    omega
theorem rcw_0 {l : LT} {h : Nat → Int} {f : Nat} (hW : WT l) (hH : HP l h) (hf : f < Ln l) : ∀ (M : List Nat) (a : Nat), rcd l h f (a :: M) → 0 ≤ rcw l h (a :: M)
  | [], _, _ => Int.le_refl _
  | x :: M, a, ha => by
    have h2 := rcw_0 hW hH hf M x ha.2.2.2
    have h3 := dst_r hW hH ((rcd_lt hf M x ha.2.2.2).1 x (by simp)) ha.1
    have h4 := ha.2.2.1
    show 0 ≤ dst l h x a + rcw l h (x :: M)
    omega
/-- a walk goes on -/
theorem rwk_ext {l : LT} {h : Nat → Int} {f y : Nat} (hy : y < Ln l) : ∀ (N : List Nat) (x : Nat) (W : List Nat), rwk l f (x :: W) → ie l x N y → ∃ W', rwk l f (y :: W') ∧ rww l h (y :: W') = rww l h (x :: W) + iw l h x N y ∧ ∀ z ∈ x :: W, z ∈ y :: W'
  | [], x, W, hw, hi => ⟨x :: W, ⟨hy, hi, hw⟩, by show Lr l x y + h y + rww l h (x :: W) = rww l h (x :: W) + (Lr l x y + h y); omega, fun z hz => List.mem_cons_of_mem _ hz⟩
  | c :: N, x, W, hw, hi => by
    obtain ⟨W', h1, h2, h3⟩ := rwk_ext (h := h) hy N c (x :: W) ⟨hi.1, hi.2.1, hw⟩ hi.2.2
    refine ⟨W', h1, ?_, fun z hz => h3 z (List.mem_cons_of_mem _ hz)⟩
    rw [h2]
    show Lr l x c + h c + rww l h (x :: W) + iw l h c N y = rww l h (x :: W) + (Lr l x c + h c + iw l h c N y)
    omega
theorem rcd_rwk {l : LT} {h : Nat → Int} {f : Nat} (hW : WT l) (hH : HP l h) (hf : f < Ln l) : ∀ (M : List Nat) (a : Nat), rcd l h f (a :: M) → ∃ W, rwk l f (a :: W) ∧ rww l h (a :: W) = rcw l h (a :: M) ∧ ∀ z ∈ a :: M, z ∈ a :: W
  | [], a, ha => ⟨[], ha, rfl, fun z hz => hz⟩
  | x :: M, a, ha => by
    obtain ⟨W, h1, h2, h3⟩ := rcd_rwk hW hH hf M x ha.2.2.2
    have hx := (rcd_lt hf M x ha.2.2.2).1 x (by simp)
    rcases dst_or hW hH hx ha.1 with ⟨e, _⟩ | ⟨⟨e, _, _⟩, _⟩
    · exact absurd e ha.2.2.1
    · rcases e with e | ⟨N, e1, e2⟩
      · exact absurd (by rw [e.1]; simp) ha.2.1
      · obtain ⟨W', g1, g2, g3⟩ := rwk_ext (h := h) ha.1 N x W h1 e1
        refine ⟨W', g1, ?_, fun z hz => ?_⟩
        · rw [g2, e2, h2]
          show rcw l h (x :: M) + dst l h x a = dst l h x a + rcw l h (x :: M)
          omega
        · rcases List.mem_cons.mp hz with h4 | h4
          · rw [h4]; simp
          · exact g3 z (h3 z h4)
theorem dst_tri {l : LT} {h : Nat → Int} (hW : WT l) (hH : HP l h) {b x y : Nat} (hb : b < Ln l) (hx : x < Ln l) (hy : y < Ln l) (hr : Lr l x y ≠ 0) (hd : dst l h b x ≠ -1) : dst l h b y ≠ -1 ∧ dst l h b y ≤ dst l h b x + (Lr l x y + h y) := by
  have key : ∃ M, ie l b M y ∧ iw l h b M y = dst l h b x + (Lr l x y + h y) := by
    rcases dst_or hW hH hb hx with ⟨e, _⟩ | ⟨⟨e, _, _⟩, _⟩
    · exact absurd e hd
    · rcases e with e | ⟨N, e1, e2⟩
      · refine ⟨[], by rw [e.1]; exact hr, ?_⟩
        rw [e.2, e.1]
        show Lr l x y + h y = 0 + (Lr l x y + h y)
        omega
      · refine ⟨N ++ x :: [], (ie_app N b []).mpr ⟨e1, hx, hr⟩, ?_⟩
        rw [iw_app, e2]; rfl
  obtain ⟨M, h1, h2⟩ := key
  rcases dst_or hW hH hb hy with ⟨_, _, e⟩ | ⟨⟨_, _, e⟩, e2⟩
  · exact absurd h1 (e M)
  · exact ⟨by omega, by rw [← h2]; exact e M h1⟩
theorem rwk_rcd {l : LT} {h : Nat → Int} {f : Nat} (hW : WT l) (hH : HP l h) (hf : f < Ln l) : ∀ (M : List Nat) (a : Nat), rwk l f (a :: M) → ∃ b K, rcd l h f (b :: K) ∧ dst l h b a ≠ -1 ∧ rcw l h (b :: K) + dst l h b a ≤ rww l h (a :: M) ∧ ∀ z, z ∈ b :: K ↔ z ∈ a :: M
  | [], a, ha => by
    have e : a = f := ha
    subst e
    have h0 := dst_0 hW hH hf
    exact ⟨a, [], rfl, by rw [h0]; decide, by rw [h0]; exact Int.le_refl _, fun z => Iff.rfl⟩
  | x :: M, a, ha => by
    obtain ⟨b, K, h1, h2, h3, h4⟩ := rwk_rcd hW hH hf M x ha.2.2
    have hx := (rwk_lt hf M x ha.2.2).1 x (by simp)
    have hb := (rcd_lt hf K b h1).1 b (by simp)
    have ht := dst_tri hW hH hb hx ha.1 ha.2.1 h2
    have hw : rww l h (a :: x :: M) = Lr l x a + h a + rww l h (x :: M) := rfl
    by_cases hm : a ∈ b :: K
    · refine ⟨b, K, h1, ht.1, by rw [hw]; omega, fun z => ⟨fun hz => List.mem_cons_of_mem _ ((h4 z).mp hz), fun hz => ?_⟩⟩
      rcases List.mem_cons.mp hz with h5 | h5
      · rw [h5]; exact hm
      · exact (h4 z).mpr h5
    · have h0 := dst_0 hW hH ha.1
      refine ⟨a, b :: K, ⟨ha.1, hm, ht.1, h1⟩, by rw [h0]; decide, ?_, fun z => ⟨fun hz => ?_, fun hz => ?_⟩⟩
      · rw [h0, hw]
        show dst l h b a + rcw l h (b :: K) + 0 ≤ _
        omega
      · rcases List.mem_cons.mp hz with h5 | h5
        · rw [h5]; simp
        · exact List.mem_cons_of_mem _ ((h4 z).mp h5)
      · rcases List.mem_cons.mp hz with h5 | h5
        · rw [h5]; simp
        · exact List.mem_cons_of_mem _ ((h4 z).mpr h5)
/-- sets that can be visited within so many hours: by walks, by chains -/
def VU (l : LT) (h : Nat → Int) (f : Nat) (H : Int) (S : Nat) : Prop := ∃ a M, rwk l f (a :: M) ∧ rww l h (a :: M) ≤ H ∧ bo (a :: M) = S
def VC (l : LT) (h : Nat → Int) (f : Nat) (H : Int) (S : Nat) : Prop := ∃ a M, rcd l h f (a :: M) ∧ rcw l h (a :: M) ≤ H ∧ bo (a :: M) = S
theorem VU_VC {l : LT} {h : Nat → Int} {f S : Nat} {H : Int} (hW : WT l) (hH : HP l h) (hf : f < Ln l) (hs : VU l h f H S) : VC l h f H S := by
  obtain ⟨a, M, h1, h2, h3⟩ := hs
  obtain ⟨b, K, g1, g2, g3, g4⟩ := rwk_rcd hW hH hf M a h1
  have hr := dst_r hW hH ((rcd_lt hf K b g1).1 b (by simp)) ((rwk_lt hf M a h1).1 a (by simp))
  exact ⟨b, K, g1, by omega, by rw [← h3]; exact bo_ext g4⟩
theorem VC_VU {l : LT} {h : Nat → Int} {f S : Nat} {H : Int} (hW : WT l) (hH : HP l h) (hf : f < Ln l) (hs : VC l h f H S) : ∃ S', VU l h f H S' ∧ ∀ i, S.testBit i = true → S'.testBit i = true := by
  obtain ⟨a, M, h1, h2, h3⟩ := hs
  obtain ⟨W, g1, g2, g3⟩ := rcd_rwk hW hH hf M a h1
  refine ⟨bo (a :: W), ⟨a, W, g1, by omega, rfl⟩, fun i hi => ?_⟩
  rw [← h3, bo_t] at hi
  rw [bo_t]
  exact decide_eq_true (g3 i (of_decide_eq_true hi))
theorem VC_in {l : LT} {h : Nat → Int} {f S : Nat} {H : Int} (hf : f < Ln l) (hs : VC l h f H S) : 2 ^ f ≤ S ∧ S < 2 ^ Ln l := by
  obtain ⟨a, M, h1, h2, h3⟩ := hs
  have hl := rcd_lt hf M a h1
  refine ⟨?_, by rw [← h3]; exact bo_lt _ hl.1⟩
  have ht : S.testBit f = true := by rw [← h3, bo_t]; exact decide_eq_true hl.2
  rcases Nat.lt_or_ge S (2 ^ f) with h4 | h4
  · rw [Nat.testBit_lt_two_pow h4] at ht; exact absurd ht (by decide)
  · exact h4
theorem VU_0 {l : LT} {h : Nat → Int} {f : Nat} {H : Int} (hH : 0 ≤ H) : VU l h f H (2 ^ f) := ⟨f, [], rfl, hH, by rw [bo_cons]; show 0 ||| 2 ^ f = 2 ^ f; exact Nat.zero_or _⟩
/-- how many of the first n bits -/
def cnt (B n : Nat) : Nat := ((List.range n).filter (fun c => B.testBit c)).length
theorem cnt_s (B n : Nat) : cnt B (n + 1) = cnt B n + (if B.testBit n = true then 1 else 0) := by
  unfold cnt
  rw [List.range_succ, List.filter_append, List.length_append]
  by_cases h : B.testBit n = true
  · rw [if_pos h]; simp [h]
  · rw [if_neg h]; simp [h]
theorem cnt_le {A B : Nat} (h : ∀ i, A.testBit i = true → B.testBit i = true) : ∀ n, cnt A n ≤ cnt B n ∧ (cnt A n = cnt B n → ∀ i, i < n → A.testBit i = B.testBit i)
  | 0 => ⟨Nat.le_refl _, fun _ i hi => absurd hi (by omega)⟩
  | n + 1 => by
    have h1 := cnt_le h n
    have h2 := h n
    rw [cnt_s, cnt_s]
    by_cases ha : A.testBit n = true
    · rw [if_pos ha, if_pos (h2 ha)]
      refine ⟨by omega, fun e i hi => ?_⟩
      rcases Nat.lt_or_ge i n with h3 | h3
      · exact h1.2 (by omega) i h3
      · rw [show i = n by omega, ha, h2 ha]
    · rw [if_neg ha]
      by_cases hb : B.testBit n = true
      · rw [if_pos hb]
        exact ⟨by omega, fun e => by omega⟩
      · rw [if_neg hb]
        refine ⟨by omega, fun e i hi => ?_⟩
        rcases Nat.lt_or_ge i n with h3 | h3
        · exact h1.2 (by omega) i h3
        · rw [show i = n by omega, Bool.eq_false_iff.mpr ha, Bool.eq_false_iff.mpr hb]
theorem pc_le {A B : Nat} (hB : B < 1024) (h : ∀ i, A.testBit i = true → B.testBit i = true) : pc A ≤ pc B ∧ (pc A = pc B → A = B) := by
  have h1 := cnt_le h 10
  refine ⟨h1.1, fun e => ?_⟩
  apply Nat.eq_of_testBit_eq
  intro i
  rcases Nat.lt_or_ge i 10 with h2 | h2
  · exact h1.2 e i h2
  · have h3 : B.testBit i = false := Nat.testBit_lt_two_pow (Nat.lt_of_lt_of_le hB (Nat.pow_le_pow_right (by omega) h2 : 2 ^ 10 ≤ 2 ^ i))
    rw [h3]
    exact Bool.eq_false_iff.mpr (fun h4 => by rw [h i h4] at h3; cases h3)
/-- the first of the greatest sets below n for which it is so, b0 being one -/
noncomputable def bsf (P : Nat → Prop) (b0 : Nat) : Nat → Nat
  | 0 => b0
  | n + 1 => @ite _ (P n ∧ pc (bsf P b0 n) < pc n) (Classical.propDecidable _) n (bsf P b0 n)
theorem bsf_y {P : Nat → Prop} {b0 n : Nat} (h : P n ∧ pc (bsf P b0 n) < pc n) : bsf P b0 (n + 1) = n := if_pos h
theorem bsf_n {P : Nat → Prop} {b0 n : Nat} (h : ¬ (P n ∧ pc (bsf P b0 n) < pc n)) : bsf P b0 (n + 1) = bsf P b0 n := if_neg h
theorem bsf_c {P : Nat → Prop} {b0 : Nat} (hb : P b0) (hP : ∀ S, P S → b0 ≤ S) : ∀ n, (n ≤ b0 → bsf P b0 n = b0) ∧ (b0 < n → P (bsf P b0 n) ∧ bsf P b0 n < n ∧ ∀ S, S < n → P S → pc S < pc (bsf P b0 n) ∨ (pc S = pc (bsf P b0 n) ∧ bsf P b0 n ≤ S))
  | 0 => ⟨fun _ => rfl, fun h => absurd h (by omega)⟩
  | n + 1 => by
    have h1 := bsf_c hb hP n
    refine ⟨fun h => ?_, fun h => ?_⟩
    · rw [bsf_n (fun k => by have := hP n k.1; omega)]; exact h1.1 (by omega)
    · rcases Nat.lt_or_ge b0 n with h2 | h2
      · have h3 := h1.2 h2
        by_cases h4 : P n ∧ pc (bsf P b0 n) < pc n
        · rw [bsf_y h4]
          refine ⟨h4.1, by omega, fun S hS hp => ?_⟩
          rcases Nat.lt_or_ge S n with h5 | h5
          · have := h3.2.2 S h5 hp; omega
          · rw [show S = n by omega]; exact Or.inr ⟨rfl, Nat.le_refl _⟩
        · rw [bsf_n h4]
          refine ⟨h3.1, by omega, fun S hS hp => ?_⟩
          rcases Nat.lt_or_ge S n with h5 | h5
          · exact h3.2.2 S h5 hp
          · have h6 : S = n := by omega
            subst h6
            have h7 : ¬ pc (bsf P b0 S) < pc S := fun k => h4 ⟨hp, k⟩
            have h8 := h3.2.1
            omega
      · have h3 : n = b0 := by omega
        subst h3
        have h4 := h1.1 (Nat.le_refl _)
        rw [bsf_n (fun k => by rw [h4] at k; omega), h4]
        refine ⟨hb, by omega, fun S hS hp => ?_⟩
        have := hP S hp
        exact Or.inr ⟨by rw [show S = n by omega], by omega⟩
theorem vis_eq {l : LT} {h : Nat → Int} {f : Nat} {H : Int} (hW : WT l) (hH : HP l h) (hf : f < Ln l) (hH0 : 0 ≤ H) : bsf (VC l h f H) (2 ^ f) (2 ^ Ln l) = bsf (VU l h f H) (2 ^ f) (2 ^ Ln l) := by
  have hlt : 2 ^ f < 2 ^ Ln l := Nat.pow_lt_pow_right (by omega) hf
  have h10 : 2 ^ Ln l ≤ 1024 := (Nat.pow_le_pow_right (by omega) hW.1.1 : 2 ^ Ln l ≤ 2 ^ 10)
  have h1 := (bsf_c (P := VC l h f H) (VU_VC hW hH hf (VU_0 hH0)) (fun S hS => (VC_in hf hS).1) (2 ^ Ln l)).2 hlt
  have h2 := (bsf_c (P := VU l h f H) (VU_0 hH0) (fun S hS => (VC_in hf (VU_VC hW hH hf hS)).1) (2 ^ Ln l)).2 hlt
  generalize bsf (VC l h f H) (2 ^ f) (2 ^ Ln l) = r1 at h1 ⊢
  generalize bsf (VU l h f H) (2 ^ f) (2 ^ Ln l) = r2 at h2 ⊢
  have a1 := h1.2.2 r2 h2.2.1 (VU_VC hW hH hf h2.1)
  obtain ⟨S, b1, b2⟩ := VC_VU hW hH hf h1.1
  have b3 := (VC_in hf (VU_VC hW hH hf b1)).2
  have b4 := h2.2.2 S b3 b1
  have b5 := pc_le (by omega) b2
  have b6 : pc r1 = pc S := by omega
  have b7 := b5.2 b6
  omega
