/-! ===== the class: sell, heal, light, parted, goings to come ===== -/
def bdf (A B : Nat) : Nat := A ^^^ (A &&& B)
theorem bdf_t (A B i : Nat) : (bdf A B).testBit i = (A.testBit i && !B.testBit i) := by
  unfold bdf
  rw [Nat.testBit_xor, Nat.testBit_and]
  cases A.testBit i <;> cases B.testBit i <;> rfl
theorem bdf_le (A B : Nat) {n : Nat} (h : A < 2 ^ n) : bdf A B < 2 ^ n := by
  unfold bdf
  exact Nat.xor_lt_two_pow h (Nat.lt_of_le_of_lt Nat.and_le_left h)
theorem jz_adn {A B : Nat} (hA : A < 2147483648) (hB : B < 2147483648) : (Int32.ofInt (A : Int) &&& Int32.ofInt ((Int32.ofInt (B : Int) ^^^ Int32.ofInt (-1)).toInt)).toInt = (bdf A B : Int) := by
  have hlt : bdf A B < 2 ^ 31 := bdf_le A B (by omega)
  have e : (nI A &&& (nI B ^^^ Int32.ofInt (-1))) = nI (bdf A B) := by
    apply Int32.toBitVec_inj.mp
    apply BitVec.eq_of_getLsbD_eq
    intro i hi
    have h1 : ∀ n : Nat, (nI n).toBitVec.getLsbD i = (decide (i < 32) && n.testBit i) := fun n => BitVec.getLsbD_ofNat 32 n i
    have h2 : ∀ i, i < 32 → (Int32.ofInt (-1)).toBitVec.getLsbD i = true := by decide
    rw [Int32.toBitVec_and, BitVec.getLsbD_and, Int32.toBitVec_xor, BitVec.getLsbD_xor, h1, h1, h1, h2 i hi, bdf_t]
    simp [hi]
  rw [Int32.ofInt_toInt, jz_ofI, jz_ofI, e, nI_toInt (by omega)]
/-- sell: the one, the hours -/
def slst (l : LT) (c : CT) (s : Int × Int) (x : Nat) : Int × Int :=
  let v := hwb l c (bdf (bo (CL c)) (2 ^ x))
  if s.1 < 0 ∨ v < s.2 ∨ (v = s.2 ∧ Lp l s.1.toNat < Lp l x) then ((x : Int), v) else s
def slf (l : LT) (c : CT) (L : List Nat) : Int × Int := L.foldl (slst l c) (-1, -1)
theorem slf_app (l : LT) (c : CT) (L : List Nat) (x : Nat) : slf l c (L ++ [x]) = slst l c (slf l c L) x := by unfold slf; rw [List.foldl_append]; rfl
theorem hwb_rng {l : LT} {c : CT} (hW : WT l) (hC : WC l c) (hj : CJ c ≠ []) (B : Nat) : 0 ≤ hwb l c B ∧ hwb l c B ≤ 1500 := hrs_rng hW (WC_J hC hj).2.1 (WC_J hC hj).1.2 _ _ _
theorem slf_rng {l : LT} {c : CT} (hW : WT l) (hC : WC l c) (hj : CJ c ≠ []) : ∀ (n : Nat) (L : List Nat), L.length = n → (∀ x ∈ L, x < Lm l) → (-1 ≤ (slf l c L).1 ∧ (slf l c L).1 < Lm l) ∧ (-1 ≤ (slf l c L).2 ∧ (slf l c L).2 ≤ 1500) := by
  intro n
  induction n with
  | zero =>
    intro L hl _
    rw [List.length_eq_zero_iff.mp hl]
    show (-1 ≤ (-1 : Int) ∧ (-1 : Int) < (Lm l : Int)) ∧ -1 ≤ (-1 : Int) ∧ (-1 : Int) ≤ 1500
    omega
  | succ n ih =>
    intro L hl h
    have hne : L ≠ [] := by intro e; subst e; simp at hl
    have e := List.dropLast_concat_getLast hne
    generalize L.dropLast = M at e
    generalize L.getLast hne = x at e
    subst e
    have h1 := ih M (by simpa using hl) (fun y hy => h y (by simp [hy]))
    have h2 := h x (by simp)
    have h3 := hwb_rng hW hC hj (bdf (bo (CL c)) (2 ^ x))
    rw [slf_app]
    unfold slst
    simp only []
    split
    · show (-1 ≤ (x : Int) ∧ (x : Int) < Lm l) ∧ -1 ≤ hwb l c (bdf (bo (CL c)) (2 ^ x)) ∧ hwb l c (bdf (bo (CL c)) (2 ^ x)) ≤ 1500
      omega
    · exact h1
/-- heal: the place, the hours, of the first n -/
def hlv (l : LT) (c : CT) (p : Nat) : Int := hrs l (CJ c) (CL c) (fun q e => if q = p then 0 else Cg c q e) (Cd c)
def hlf (l : LT) (c : CT) : Nat → Int × Int
  | 0 => (-1, -1)
  | n + 1 => if (hlf l c n).1 < 0 ∨ hlv l c n < (hlf l c n).2 then ((n : Int), hlv l c n) else hlf l c n
theorem hlf_rng {l : LT} {c : CT} (hW : WT l) (hC : WC l c) (hj : CJ c ≠ []) : ∀ n, (-1 ≤ (hlf l c n).1 ∧ (hlf l c n).1 < n) ∧ (-1 ≤ (hlf l c n).2 ∧ (hlf l c n).2 ≤ 1500)
  | 0 => by simp [hlf]
  | n + 1 => by
    have h1 := hlf_rng hW hC hj n
    have h2 : 0 ≤ hlv l c n ∧ hlv l c n ≤ 1500 := hrs_rng hW (WC_J hC hj).2.1 (WC_J hC hj).1.2 _ _ _
    unfold hlf
    split
    · show (-1 ≤ (n : Int) ∧ (n : Int) < (n + 1 : Nat)) ∧ -1 ≤ hlv l c n ∧ hlv l c n ≤ 1500
      omega
    · omega
/-- light: the bits, of the first n -/
def lgf (l : LT) (c : CT) (h : Int) : Nat → Int
  | 0 => -1
  | n + 1 => if bdf n (bo (CL c)) = 0 ∧ (lgf l c h n < 0 ∨ pc n < pc (lgf l c h n).toNat) ∧ hwb l c (bdf (bo (CL c)) n) ≤ h then (n : Int) else lgf l c h n
theorem lgf_rng (l : LT) (c : CT) (h : Int) : ∀ n, -1 ≤ lgf l c h n ∧ lgf l c h n < n
  | 0 => by simp [lgf]
  | n + 1 => by
    have h1 := lgf_rng l c h n
    unfold lgf
    split <;> omega
/-- parted: the hours, the bits, of n from b0 on -/
def ptv (l : LT) (c : CT) (b : Nat) : Int := max (hwb l c b) (if b = bo (CL c) then 0 else hwb l c (bdf (bo (CL c)) b))
def ptf (l : LT) (c : CT) (b0 : Nat) : Nat → Int × Nat
  | 0 => (2147483647, 0)
  | n + 1 => if bdf (b0 + n) (bo (CL c)) = 0 ∧ (b0 + n) &&& b0 ≠ 0 ∧ ptv l c (b0 + n) < (ptf l c b0 n).1 then (ptv l c (b0 + n), b0 + n) else ptf l c b0 n
theorem ptv_rng {l : LT} {c : CT} (hW : WT l) (hC : WC l c) (hj : CJ c ≠ []) (b : Nat) : 0 ≤ ptv l c b ∧ ptv l c b ≤ 1500 := by
  unfold ptv
  have h1 := hwb_rng hW hC hj b
  have h2 := hwb_rng hW hC hj (bdf (bo (CL c)) b)
  split <;> omega
theorem ptf_rng {l : LT} {c : CT} (hW : WT l) (hC : WC l c) (hj : CJ c ≠ []) (b0 : Nat) : ∀ n, 0 ≤ (ptf l c b0 n).1 ∧ (ptf l c b0 n).1 ≤ 2147483647
  | 0 => by simp [ptf]
  | n + 1 => by
    have h1 := ptf_rng hW hC hj b0 n
    have h2 := ptv_rng hW hC hj (b0 + n)
    unfold ptf
    split
    · show 0 ≤ ptv l c (b0 + n) ∧ ptv l c (b0 + n) ≤ 2147483647; omega
    · exact h1
/-- GrievingCamels.sell -/
theorem cz_168 {V : jx_V} (hV : V.1.stackTraces = false) {X : jx_X} {R : jx_R} {I : jx_I} {a0 : Nat} {a1 : Int} {ld : Nat} {l : LT} {c : CT} 
    (h : GX X R I a0 ld l c) (r_a1 : -2147483648 ≤ a1 ∧ a1 < 2147483648)
    : jc V 10 168 (2, 12) [.ref a0, jy a1] X I R (fun rv I' => nz (0 ≤ a1 ∧ a1 ≤ 1) 2 (nz (CJ c ≠ []) 3 (none)) = none ∧ rv = some (jy (if a1 = 0 then (slf l c (CL c)).1 else (slf l c (CL c)).2)) ∧ FS a0 I I') (fun E I' => ∃ k, nz (0 ≤ a1 ∧ a1 ≤ 1) 2 (nz (CJ c ≠ []) 3 (none)) = some k ∧ E = (jx_exe k).1 ∧ I' = rfs I a0 k) := by
  have hW := h.2.2.2.1
  have hW0 := hW.1
  refine wm_168 hV (by omega)  (fun J29 J119 hJJ => ?_)
  obtain ⟨hJ29, hJ119⟩ := hJJ
  have hl := GX_l h
  have hD := h.2.2.1; have hS := h.2.2.2.2.1; have hC := h.2.2.2.2.2.1; have hlo := h.2.1.2
  have hL8 : ∀ x ∈ CL c, x < 8 := fun x hx => by have := hC.2.1.2 x hx; omega
  have hbo : bo (CL c) < 2 ^ 8 := bo_lt _ hL8
  unfold wz_168
  refine ⟨s_GC_0 h.1, ?_⟩
  refine ⟨_, _, cz_190 hV h.1 (by omega) (by omega), fun Ex Ix h9 => ⟨2, by rw [nz_f h9.2.2], h9.1, h9.2.1⟩, ?_⟩
  rintro _ I6 ⟨rfl, e9, hp1⟩; replace e9 := e9.symm; subst e9
  refine ⟨rfl, ?_⟩
  refine ⟨_, _, cz_193 hV h, fun Ex Ix h9 => ⟨3, by rw [nz_t hp1]; rw [nz_f (fun k => k h9.2.2)], h9.1, h9.2.1⟩, ?_⟩
  rintro _ I12 ⟨rfl, e9, hpJ⟩; replace e9 := e9.symm; subst e9
  refine ⟨rfl, ?_⟩
  refine ⟨_, r_GC_0_2 h.1, s_State_0 (b_GC_4 h.1), _, r_State_0_1 (b_GC_4 h.1), s_Row_0 (b_GC_9 h.1), ?_⟩
  refine ⟨_, cz_80 hV (b_GC_9 h.1) hS.2.1 (fun x hx => by have := hL8 x hx; omega), ?_⟩
  rintro _ I22 ⟨rfl, e9⟩; replace e9 := e9.symm; subst e9
  refine ⟨_, rfl, ?_⟩
  have L29 : ∀ (n29 : Nat) (l2 : Int) (l3 : Int) (l4 : Int) (l5 : Int) (K : jx_I), n29 = (((CL c).length : Int) - l5).toNat → (∃ k : Nat, l5 = k ∧ k ≤ (CL c).length ∧ l2 = (bo (CL c) : Nat) ∧ l3 = (slf l c ((CL c).take k)).1 ∧ l4 = (slf l c ((CL c).take k)).2 ∧ FS a0 I K) → J29 l2 l3 l4 l5 K := by
    intro n29
    induction n29 using Nat.strongRecOn with
    | ind n29 ih29 =>
    intro l2 l3 l4 l5 K hn29 hI29
    obtain ⟨k, rfl, hk, rfl, rfl, rfl, hF⟩ := hI29
    have h2 := GX_s h hF
    have hS2 := h2.2.2.2.2.1
    have hmr := hS2.2.1.1
    have hn12 := hS2.2.1.2.1
    have hrg := slf_rng hW hC hpJ _ ((CL c).take k) rfl (fun x hx => hC.2.1.2 x (List.mem_of_mem_take hx))
    refine hJ29 _ _ _ _ _ ?_
    unfold wz_168_29
    refine ⟨s_GC_0 h.1, _, r_GC_0_2 h.1, s_State_0 (b_GC_4 h.1), _, r_State_0_1 (b_GC_4 h.1), s_Row_0 (b_GC_9 h.1), by omega, ?_⟩
    refine ⟨fun hq1 => ?_, fun hq1 => ?_⟩
    · rw [List.take_of_length_le (by omega)]
      refine ⟨fun hq2 => ?_, fun hq2 => ?_⟩
      · exact ⟨by rw [nz_t hp1, nz_t hpJ], by rw [if_neg (by omega)], hF⟩
      · exact ⟨by rw [nz_t hp1, nz_t hpJ], by rw [if_pos (by omega)], hF⟩
    · obtain ⟨y, hy, hy2⟩ := RW_get hS2.2.1 (i := k) (by omega)
      have hym := List.mem_of_getElem? hy
      have hy8 := hL8 y hym
      have hym2 := hC.2.1.2 y hym
      have hls := ls_last hy
      have hitem : itm (CL c) (k : Int) = (y : Int) := itm_i (by omega) (by rw [Int.toNat_natCast]; exact hy)
      have hb2 : 2 ^ y < 2 ^ 8 := Nat.pow_lt_pow_right (by omega) hy8
      have hbd : bdf (bo (CL c)) (2 ^ y) < 2 ^ 8 := bdf_le _ _ hbo
      have hwr := hwb_rng hW hC hpJ (bdf (bo (CL c)) (2 ^ y))
      refine ⟨_, cz_73 hV (b_GC_9 h.1) hS2.2.1 (by omega), ?_⟩
      rintro _ I34 ⟨rfl, e9⟩; replace e9 := e9.symm; subst e9
      refine ⟨_, rfl, ?_⟩
      try simp only [-eq_self, hitem, jz_1sh (show y < 31 by omega), jz_adn (show bo (CL c) < 2147483648 by omega) (show 2 ^ y < 2147483648 by omega)]
      refine ⟨_, cz_195 (B := bdf (bo (CL c)) (2 ^ y)) hV h2 hpJ rfl (by omega), ?_⟩
      rintro _ I38 ⟨rfl, hF2⟩
      refine ⟨_, rfl, ?_⟩
      have h3 := GX_s h2 hF2
      have hD3 := h3.2.2.1
      try simp only [-eq_self, hitem]
      refine ⟨by omega, ?_⟩
      refine ⟨fun hq3 => ?_, fun hq3 => ?_⟩
      · refine hJ119 _ _ _ _ _ ?_
        unfold wz_168_119
        exact ih29 _ (by omega) _ _ _ _ _ rfl (⟨k + 1, by omega, by omega, rfl, by rw [hls, slf_app]; unfold slst; simp only []; rw [if_pos (by omega)], by rw [hls, slf_app]; unfold slst; simp only []; rw [if_pos (by omega)], FS_trans hF hF2⟩)
      · refine ⟨by omega, by omega, ?_⟩
        refine ⟨fun hq4 => ?_, fun hq4 => ?_⟩
        · refine hJ119 _ _ _ _ _ ?_
          unfold wz_168_119
          exact ih29 _ (by omega) _ _ _ _ _ rfl (⟨k + 1, by omega, by omega, rfl, by rw [hls, slf_app]; unfold slst; simp only []; rw [if_pos (by omega)], by rw [hls, slf_app]; unfold slst; simp only []; rw [if_pos (by omega)], FS_trans hF hF2⟩)
        · refine ⟨fun hq5 => ?_, fun hq5 => ?_⟩
          · exact ih29 _ (by omega) _ _ _ _ _ rfl (⟨k + 1, by omega, by omega, rfl, by rw [hls, slf_app]; unfold slst; simp only []; rw [if_neg (by omega)], by rw [hls, slf_app]; unfold slst; simp only []; rw [if_neg (by omega)], FS_trans hF hF2⟩)
          · refine ⟨_, h.2.1.1, s_Land_0 hl, _, r_Land_0_2 hl, _, ⟨s_Land_3 hl, by decide⟩, ?_⟩
            have p1 := (hD3.2.2.2.1 y hym2).1
            have p2 := (hD3.2.2.2.1 (slf l c ((CL c).take k)).1.toNat (by omega)).1
            try simp only [-eq_self, Int.toNat_natCast, p1, p2]
            refine ⟨by omega, by omega, ?_⟩
            refine ⟨fun hq6 => ?_, fun hq6 => ?_⟩
            · skip
              exact ih29 _ (by omega) _ _ _ _ _ rfl (⟨k + 1, by omega, by omega, rfl, by rw [hls, slf_app]; unfold slst; simp only []; rw [if_neg (by omega)], by rw [hls, slf_app]; unfold slst; simp only []; rw [if_neg (by omega)], FS_trans hF hF2⟩)
            · refine hJ119 _ _ _ _ _ ?_
              unfold wz_168_119
              exact ih29 _ (by omega) _ _ _ _ _ rfl (⟨k + 1, by omega, by omega, rfl, by rw [hls, slf_app]; unfold slst; simp only []; rw [if_pos (by omega)], by rw [hls, slf_app]; unfold slst; simp only []; rw [if_pos (by omega)], FS_trans hF hF2⟩)
  exact L29 _ _ _ _ _ _ rfl (⟨0, rfl, by omega, rfl, by rw [List.take_zero]; rfl, by rw [List.take_zero]; rfl, FS_refl⟩)
/-- GrievingCamels.heal -/
theorem cz_169 {V : jx_V} (hV : V.1.stackTraces = false) {X : jx_X} {R : jx_R} {I : jx_I} {a0 : Nat} {a1 : Int} {ld : Nat} {l : LT} {c : CT} 
    (h : GX X R I a0 ld l c) (r_a1 : -2147483648 ≤ a1 ∧ a1 < 2147483648)
    : jc V 10 169 (2, 12) [.ref a0, jy a1] X I R (fun rv I' => nz (0 ≤ a1 ∧ a1 ≤ 1) 2 (nz (CJ c ≠ []) 3 (none)) = none ∧ rv = some (jy (if a1 = 0 then (hlf l c (Ln l)).1 else (hlf l c (Ln l)).2)) ∧ FS a0 I I') (fun E I' => ∃ k, nz (0 ≤ a1 ∧ a1 ≤ 1) 2 (nz (CJ c ≠ []) 3 (none)) = some k ∧ E = (jx_exe k).1 ∧ I' = rfs I a0 k) := by
  have hW := h.2.2.2.1
  have hW0 := hW.1
  refine wm_169 hV (by omega)  (fun J17 J107 hJJ => ?_)
  obtain ⟨hJ17, hJ107⟩ := hJJ
  have hl := GX_l h
  have hD := h.2.2.1; have hS := h.2.2.2.2.1; have hC := h.2.2.2.2.2.1; have hlo := h.2.1.2
  have hL8 : ∀ x ∈ CL c, x < 8 := fun x hx => by have := hC.2.1.2 x hx; omega
  have hbo : bo (CL c) < 2 ^ 8 := bo_lt _ hL8
  unfold wz_169
  refine ⟨s_GC_0 h.1, ?_⟩
  refine ⟨_, _, cz_190 hV h.1 (by omega) (by omega), fun Ex Ix h9 => ⟨2, by rw [nz_f h9.2.2], h9.1, h9.2.1⟩, ?_⟩
  rintro _ I6 ⟨rfl, e9, hp1⟩; replace e9 := e9.symm; subst e9
  refine ⟨rfl, ?_⟩
  refine ⟨_, _, cz_193 hV h, fun Ex Ix h9 => ⟨3, by rw [nz_t hp1]; rw [nz_f (fun k => k h9.2.2)], h9.1, h9.2.1⟩, ?_⟩
  rintro _ I12 ⟨rfl, e9, hpJ⟩; replace e9 := e9.symm; subst e9
  refine ⟨rfl, ?_⟩
  have L17 : ∀ (n17 : Nat) (l2 : Int) (l3 : Int) (l4 : Int) (K : jx_I), n17 = ((Ln l : Int) - l4).toNat → (∃ k : Nat, l4 = k ∧ k ≤ Ln l ∧ l2 = (hlf l c k).1 ∧ l3 = (hlf l c k).2 ∧ FS a0 I K) → J17 l2 l3 l4 K := by
    intro n17
    induction n17 using Nat.strongRecOn with
    | ind n17 ih17 =>
    intro l2 l3 l4 K hn17 hI17
    obtain ⟨k, rfl, hk, rfl, rfl, hF⟩ := hI17
    have h2 := GX_s h hF
    have hS2 := h2.2.2.2.2.1
    have hn7 := h2.2.2.1.1.1
    have hrg := hlf_rng hW hC hpJ k
    have hfs : hlf l c (k + 1) = if (hlf l c k).1 < 0 ∨ hlv l c k < (hlf l c k).2 then ((k : Int), hlv l c k) else hlf l c k := rfl
    have hvr : 0 ≤ hlv l c k ∧ hlv l c k ≤ 1500 := hrs_rng hW (WC_J hC hpJ).2.1 (WC_J hC hpJ).1.2 _ _ _
    have hGk : GD (fun q e => if q = k then 0 else Cg c q e) (Cd c) := fun q e hq he => ⟨by show 0 ≤ (if q = k then 0 else Cg c q e) ∧ (if q = k then 0 else Cg c q e) ≤ 20; have := (hC.1 q e hq he).1; split <;> omega, (hC.1 q e hq he).2⟩
    refine hJ17 _ _ _ _ ?_
    unfold wz_169_17
    refine ⟨s_GC_0 h.1, _, h.2.1.1, s_Land_0 hl, by omega, ?_⟩
    refine ⟨fun hq1 => ?_, fun hq1 => ?_⟩
    · rw [show Ln l = k by omega]
      refine ⟨fun hq2 => ?_, fun hq2 => ?_⟩
      · exact ⟨by rw [nz_t hp1, nz_t hpJ], by rw [if_neg (by omega)], hF⟩
      · exact ⟨by rw [nz_t hp1, nz_t hpJ], by rw [if_pos (by omega)], hF⟩
    · refine ⟨_, r_GC_0_10 h.1, _, r_GC_0_2 h.1, s_State_0 (b_GC_4 h.1), _, r_State_0_0 (b_GC_4 h.1), s_Herd_0 (b_GC_32 h.1), ?_⟩
      refine ⟨_, cz_9 hV (b_GC_32 h.1) (b_GC_5 h.1) (by omega) hS2.1, ?_⟩
      rintro _ I29 ⟨rfl, hH1, hF1⟩
      refine ⟨rfl, ?_⟩
      refine ⟨_, cz_15 hV (b_GC_32 h.1) hH1 rfl (by omega), ?_⟩
      rintro _ I33 ⟨rfl, hH2, hF2⟩
      refine ⟨rfl, ?_⟩
      refine ⟨_, r_GC_0_4 h.1, _, r_State_0_2 (b_GC_4 h.1), _, r_State_0_1 (b_GC_4 h.1), s_Trip_0 (b_GC_17 h.1), ?_⟩
      refine ⟨_, cz_121 (g := fun q e => if q = k then 0 else Cg c q e) hV (b_GC_17 h.1) hl (b_GC_11 h.1) (b_GC_9 h.1) (LD_fr (LD_fr h2.2.2.1 hF1 (by omega)) hF2 (by omega)) hW (RW_fr (RW_fr hS2.2.2.1 hF1 (by omega)) hF2 (by omega)) (WC_J hC hpJ).2.1 (RW_fr (RW_fr hS2.2.1 hF1 (by omega)) hF2 (by omega)) hC.2.1.2 hC.2.1.1 hGk (by omega) (by omega) (by omega) (b_GC_32 h.1) (WC_J hC hpJ).2.2 hH2 (by omega) (by omega), ?_⟩
      rintro _ I44 ⟨rfl, hT, h0, hFt⟩
      refine ⟨rfl, ?_⟩
      have hF3 : FS a0 I I44 := FS_2 (FS_fr (FS_fr hF hF1 (by omega)) hF2 (by omega)) hFt h0 hlo
      have hvv : (I44 (a0 + 17) 3).toInt + (I44 (a0 + 17) 4).toInt = hlv l c k := by rw [hT.2.1, hT.2.2.1]; rfl
      try simp only [-eq_self, hvv]
      refine ⟨by omega, ?_⟩
      refine ⟨fun hq3 => ?_, fun hq3 => ?_⟩
      · refine ⟨_, cz_123 hV (b_GC_17 h.1), ?_⟩
        rintro _ I49 ⟨rfl, e9⟩; replace e9 := e9.symm; subst e9
        refine ⟨_, rfl, ?_⟩
        try simp only [-eq_self, hvv]
        refine hJ107 _ _ _ _ ?_
        unfold wz_169_107
        exact ih17 _ (by omega) _ _ _ _ rfl (⟨k + 1, by omega, by omega, by rw [hfs, if_pos (by omega)], by rw [hfs, if_pos (by omega)], hF3⟩)
      · refine ⟨_, cz_123 hV (b_GC_17 h.1), ?_⟩
        rintro _ I53 ⟨rfl, e9⟩; replace e9 := e9.symm; subst e9
        refine ⟨_, rfl, ?_⟩
        try simp only [-eq_self, hvv]
        refine ⟨by omega, by omega, ?_⟩
        refine ⟨fun hq4 => ?_, fun hq4 => ?_⟩
        · exact ih17 _ (by omega) _ _ _ _ rfl (⟨k + 1, by omega, by omega, by rw [hfs, if_neg (by omega)], by rw [hfs, if_neg (by omega)], hF3⟩)
        · refine ⟨_, cz_123 hV (b_GC_17 h.1), ?_⟩
          rintro _ I59 ⟨rfl, e9⟩; replace e9 := e9.symm; subst e9
          refine ⟨_, rfl, ?_⟩
          try simp only [-eq_self, hvv]
          refine hJ107 _ _ _ _ ?_
          unfold wz_169_107
          exact ih17 _ (by omega) _ _ _ _ rfl (⟨k + 1, by omega, by omega, by rw [hfs, if_pos (by omega)], by rw [hfs, if_pos (by omega)], hF3⟩)
  exact L17 _ _ _ _ _ rfl (⟨0, rfl, by omega, rfl, rfl, FS_refl⟩)
/-- GrievingCamels.light -/
theorem cz_170 {V : jx_V} (hV : V.1.stackTraces = false) {X : jx_X} {R : jx_R} {I : jx_I} {a0 : Nat} {a1 : Int} {ld : Nat} {l : LT} {c : CT} 
    (h : GX X R I a0 ld l c) (r_a1 : -2147483648 ≤ a1 ∧ a1 < 2147483648)
    : jc V 10 170 (2, 12) [.ref a0, jy a1] X I R (fun rv I' => nz (0 ≤ a1 ∧ a1 ≤ 9999) 2 (nz (CJ c ≠ []) 3 (none)) = none ∧ rv = some (jy (lgf l c a1 (bo (CL c) + 1))) ∧ FS a0 I I') (fun E I' => ∃ k, nz (0 ≤ a1 ∧ a1 ≤ 9999) 2 (nz (CJ c ≠ []) 3 (none)) = some k ∧ E = (jx_exe k).1 ∧ I' = rfs I a0 k) := by
  have hW := h.2.2.2.1
  have hW0 := hW.1
  refine wm_170 hV (by omega)  (fun J25 J52 J85 hJJ => ?_)
  obtain ⟨hJ25, hJ52, hJ85⟩ := hJJ
  have hl := GX_l h
  have hD := h.2.2.1; have hS := h.2.2.2.2.1; have hC := h.2.2.2.2.2.1; have hlo := h.2.1.2
  have hL8 : ∀ x ∈ CL c, x < 8 := fun x hx => by have := hC.2.1.2 x hx; omega
  have hbo : bo (CL c) < 2 ^ 8 := bo_lt _ hL8
  unfold wz_170
  refine ⟨s_GC_0 h.1, ?_⟩
  refine ⟨_, _, cz_191 hV h.1 (by omega), fun Ex Ix h9 => ⟨2, by rw [nz_f h9.2.2], h9.1, h9.2.1⟩, ?_⟩
  rintro _ I6 ⟨rfl, e9, hp1⟩; replace e9 := e9.symm; subst e9
  refine ⟨rfl, ?_⟩
  refine ⟨_, _, cz_193 hV h, fun Ex Ix h9 => ⟨3, by rw [nz_t hp1]; rw [nz_f (fun k => k h9.2.2)], h9.1, h9.2.1⟩, ?_⟩
  rintro _ I12 ⟨rfl, e9, hpJ⟩; replace e9 := e9.symm; subst e9
  refine ⟨rfl, ?_⟩
  refine ⟨_, r_GC_0_2 h.1, s_State_0 (b_GC_4 h.1), _, r_State_0_1 (b_GC_4 h.1), s_Row_0 (b_GC_9 h.1), ?_⟩
  refine ⟨_, cz_80 hV (b_GC_9 h.1) hS.2.1 (fun x hx => by have := hL8 x hx; omega), ?_⟩
  rintro _ I22 ⟨rfl, e9⟩; replace e9 := e9.symm; subst e9
  refine ⟨_, rfl, ?_⟩
  have L25 : ∀ (n25 : Nat) (l2 : Int) (l3 : Int) (l4 : Int) (K : jx_I), n25 = ((bo (CL c) : Int) + 1 - l4).toNat → (∃ k : Nat, l4 = k ∧ k ≤ bo (CL c) + 1 ∧ l2 = (bo (CL c) : Nat) ∧ l3 = lgf l c a1 k ∧ FS a0 I K) → J25 l2 l3 l4 K := by
    intro n25
    induction n25 using Nat.strongRecOn with
    | ind n25 ih25 =>
    intro l2 l3 l4 K hn25 hI25
    obtain ⟨k, rfl, hk, rfl, rfl, hF⟩ := hI25
    have h2 := GX_s h hF
    have hrg := lgf_rng l c a1 k
    have hfs : lgf l c a1 (k + 1) = if bdf k (bo (CL c)) = 0 ∧ (lgf l c a1 k < 0 ∨ pc k < pc (lgf l c a1 k).toNat) ∧ hwb l c (bdf (bo (CL c)) k) ≤ a1 then (k : Int) else lgf l c a1 k := rfl
    have hpc1 : pc k ≤ 10 := by unfold pc; have := List.length_filter_le (fun x => k.testBit x) (List.range 10); simpa using this
    have hpc2 : pc (lgf l c a1 k).toNat ≤ 10 := by unfold pc; have := List.length_filter_le (fun x => (lgf l c a1 k).toNat.testBit x) (List.range 10); simpa using this
    refine hJ25 _ _ _ _ ?_
    unfold wz_170_25
    refine ⟨by omega, by omega, ?_⟩
    refine ⟨fun hq1 => ?_, fun hq1 => ?_⟩
    · rw [show bo (CL c) + 1 = k by omega]
      exact ⟨by rw [nz_t hp1, nz_t hpJ], by trivial, hF⟩
    · have hb2 : k < 2 ^ 8 := by omega
      have had := jz_adn (A := k) (B := bo (CL c)) (by omega) (by omega)
      have had2 := jz_adn (A := bo (CL c)) (B := k) (by omega) (by omega)
      have hbd : bdf (bo (CL c)) k < 2 ^ 8 := bdf_le _ _ hbo
      have hwr := hwb_rng hW hC hpJ (bdf (bo (CL c)) k)
      refine ⟨by omega, ?_⟩
      refine ⟨fun hq2 => ?_, fun hq2 => ?_⟩
      · refine hJ52 _ _ _ _ _ ?_
        unfold wz_170_52
        try simp only [-eq_self, had]
        refine ⟨fun hq3 => ?_, fun hq3 => ?_⟩
        · exact ih25 _ (by omega) _ _ _ _ rfl (⟨k + 1, by omega, by omega, rfl, by rw [hfs, if_neg (by intro h; omega)], hF⟩)
        · refine ⟨by omega, ?_⟩
          refine ⟨fun hq4 => ?_, fun hq4 => ?_⟩
          · omega
          · refine ⟨s_GC_0 h.1, ?_⟩
            try simp only [-eq_self, had2]
            refine ⟨_, cz_195 (B := bdf (bo (CL c)) k) hV h2 hpJ rfl (by omega), ?_⟩
            rintro _ I41 ⟨rfl, hF2⟩
            refine ⟨_, rfl, ?_⟩
            refine ⟨by omega, ?_⟩
            refine ⟨fun hq5 => ?_, fun hq5 => ?_⟩
            · exact ih25 _ (by omega) _ _ _ _ rfl (⟨k + 1, by omega, by omega, rfl, by rw [hfs, if_neg (by intro h; omega)], FS_trans hF hF2⟩)
            · refine hJ85 _ _ _ _ ?_
              unfold wz_170_85
              exact ih25 _ (by omega) _ _ _ _ rfl (⟨k + 1, by omega, by omega, rfl, by rw [hfs, if_pos (by refine ⟨by omega, by omega, by omega⟩)], FS_trans hF hF2⟩)
      · refine ⟨_, cz_327 (B := k) hV rfl (by omega), ?_⟩
        rintro _ I29 ⟨rfl, e9⟩; replace e9 := e9.symm; subst e9
        refine ⟨_, rfl, ?_⟩
        refine ⟨_, cz_327 (B := (lgf l c a1 k).toNat) hV (by omega) (by omega), ?_⟩
        rintro _ I33 ⟨rfl, e9⟩; replace e9 := e9.symm; subst e9
        refine ⟨_, rfl, ?_⟩
        refine ⟨by omega, by omega, ?_⟩
        refine ⟨fun hq6 => ?_, fun hq6 => ?_⟩
        · refine hJ52 _ _ _ _ _ ?_
          unfold wz_170_52
          try simp only [-eq_self, had]
          refine ⟨fun hq7 => ?_, fun hq7 => ?_⟩
          · exact ih25 _ (by omega) _ _ _ _ rfl (⟨k + 1, by omega, by omega, rfl, by rw [hfs, if_neg (by intro h; omega)], hF⟩)
          · refine ⟨by omega, ?_⟩
            refine ⟨fun hq8 => ?_, fun hq8 => ?_⟩
            · exact ih25 _ (by omega) _ _ _ _ rfl (⟨k + 1, by omega, by omega, rfl, by rw [hfs, if_neg (by intro h; omega)], hF⟩)
            · omega
        · refine hJ52 _ _ _ _ _ ?_
          unfold wz_170_52
          try simp only [-eq_self, had]
          refine ⟨fun hq9 => ?_, fun hq9 => ?_⟩
          · exact ih25 _ (by omega) _ _ _ _ rfl (⟨k + 1, by omega, by omega, rfl, by rw [hfs, if_neg (by intro h; omega)], hF⟩)
          · refine ⟨by omega, ?_⟩
            refine ⟨fun hq10 => ?_, fun hq10 => ?_⟩
            · omega
            · refine ⟨s_GC_0 h.1, ?_⟩
              try simp only [-eq_self, had2]
              refine ⟨_, cz_195 (B := bdf (bo (CL c)) k) hV h2 hpJ rfl (by omega), ?_⟩
              rintro _ I41 ⟨rfl, hF2⟩
              refine ⟨_, rfl, ?_⟩
              refine ⟨by omega, ?_⟩
              refine ⟨fun hq11 => ?_, fun hq11 => ?_⟩
              · exact ih25 _ (by omega) _ _ _ _ rfl (⟨k + 1, by omega, by omega, rfl, by rw [hfs, if_neg (by intro h; omega)], FS_trans hF hF2⟩)
              · refine hJ85 _ _ _ _ ?_
                unfold wz_170_85
                exact ih25 _ (by omega) _ _ _ _ rfl (⟨k + 1, by omega, by omega, rfl, by rw [hfs, if_pos (by refine ⟨by omega, by omega, by omega⟩)], FS_trans hF hF2⟩)
  exact L25 _ _ _ _ _ rfl (⟨0, rfl, by omega, rfl, rfl, FS_refl⟩)
theorem and_pow (B i : Nat) : B &&& 2 ^ i = if B.testBit i then 2 ^ i else 0 := by
  apply Nat.eq_of_testBit_eq
  intro k
  rw [Nat.testBit_and, Nat.testBit_two_pow]
  by_cases e : i = k
  · subst e
    cases h : B.testBit i <;> simp [h]
  · cases h : B.testBit i <;> simp [h, e]
theorem bo_ne {L : List Nat} (h : L ≠ []) : bo L ≠ 0 := by
  intro e
  obtain ⟨x, l, rfl⟩ := List.exists_cons_of_ne_nil h
  have h1 := bo_t (x :: l) x
  rw [e] at h1
  simp at h1
/-- GrievingCamels.parted -/
theorem cz_167 {V : jx_V} (hV : V.1.stackTraces = false) {X : jx_X} {R : jx_R} {I : jx_I} {a0 : Nat} {a1 : Int} {ld : Nat} {l : LT} {c : CT} 
    (h : GX X R I a0 ld l c) (r_a1 : -2147483648 ≤ a1 ∧ a1 < 2147483648)
    : jc V 10 167 (2, 12) [.ref a0, jy a1] X I R (fun rv I' => nz (0 ≤ a1 ∧ a1 ≤ 1) 2 (nz (CJ c ≠ []) 3 (none)) = none ∧ rv = some (jy (if CL c = [] then 0 else if a1 = 0 then (ptf l c (2 ^ (CL c).getD 0 0) (bo (CL c) + 1 - (2 ^ (CL c).getD 0 0))).1 else ((ptf l c (2 ^ (CL c).getD 0 0) (bo (CL c) + 1 - (2 ^ (CL c).getD 0 0))).2 : Nat))) ∧ FS a0 I I') (fun E I' => ∃ k, nz (0 ≤ a1 ∧ a1 ≤ 1) 2 (nz (CJ c ≠ []) 3 (none)) = some k ∧ E = (jx_exe k).1 ∧ I' = rfs I a0 k) := by
  have hW := h.2.2.2.1
  have hW0 := hW.1
  refine wm_167 hV (by omega)  (fun J52 J100 J120 hJJ => ?_)
  obtain ⟨hJ52, hJ100, hJ120⟩ := hJJ
  have hl := GX_l h
  have hD := h.2.2.1; have hS := h.2.2.2.2.1; have hC := h.2.2.2.2.2.1; have hlo := h.2.1.2
  have hL8 : ∀ x ∈ CL c, x < 8 := fun x hx => by have := hC.2.1.2 x hx; omega
  have hbo : bo (CL c) < 2 ^ 8 := bo_lt _ hL8
  unfold wz_167
  refine ⟨s_GC_0 h.1, ?_⟩
  refine ⟨_, _, cz_190 hV h.1 (by omega) (by omega), fun Ex Ix h9 => ⟨2, by rw [nz_f h9.2.2], h9.1, h9.2.1⟩, ?_⟩
  rintro _ I6 ⟨rfl, e9, hp1⟩; replace e9 := e9.symm; subst e9
  refine ⟨rfl, ?_⟩
  refine ⟨_, _, cz_193 hV h, fun Ex Ix h9 => ⟨3, by rw [nz_t hp1]; rw [nz_f (fun k => k h9.2.2)], h9.1, h9.2.1⟩, ?_⟩
  rintro _ I12 ⟨rfl, e9, hpJ⟩; replace e9 := e9.symm; subst e9
  refine ⟨rfl, ?_⟩
  refine ⟨_, r_GC_0_2 h.1, s_State_0 (b_GC_4 h.1), _, r_State_0_1 (b_GC_4 h.1), s_Row_0 (b_GC_9 h.1), ?_⟩
  refine ⟨_, cz_80 hV (b_GC_9 h.1) hS.2.1 (fun x hx => by have := hL8 x hx; omega), ?_⟩
  rintro _ I22 ⟨rfl, e9⟩; replace e9 := e9.symm; subst e9
  refine ⟨_, rfl, ?_⟩
  refine ⟨by omega, ?_⟩
  refine ⟨fun hq1 => ?_, fun hq1 => ?_⟩
  · have hne : CL c ≠ [] := by intro e; rw [e] at hq1; exact hq1 rfl
    have hy : (CL c)[0]? = some ((CL c).getD 0 0) := by
      have h0 : 0 < (CL c).length := List.length_pos_iff.mpr hne
      rw [List.getD_eq_getElem?_getD, List.getElem?_eq_getElem h0]; rfl
    have hym := List.mem_of_getElem? hy
    have hy8 := hL8 _ hym
    have hitem : itm (CL c) 0 = ((CL c).getD 0 0 : Nat) := itm_i (by omega) hy
    have hb2 : (2 ^ (CL c).getD 0 0) < 2 ^ 8 := Nat.pow_lt_pow_right (by omega) hy8
    have hsh : (Int32.ofInt 1 <<< (Int32.ofInt (itm (CL c) 0) &&& 31)).toInt = (((2 ^ (CL c).getD 0 0) : Nat) : Int) := by rw [hitem]; exact jz_1sh (by omega)
    have hb3 : (2 ^ (CL c).getD 0 0) ≤ bo (CL c) := by
      have h1 : (bo (CL c)).testBit ((CL c).getD 0 0) = true := by rw [bo_t]; simpa using hym
      exact Nat.ge_two_pow_of_testBit h1
    generalize 2 ^ (CL c).getD 0 0 = b0 at *
    refine ⟨_, cz_73 hV (b_GC_9 h.1) hS.2.1 (by omega), ?_⟩
    rintro _ I27 ⟨rfl, e9⟩; replace e9 := e9.symm; subst e9
    refine ⟨_, rfl, ?_⟩
    have L52 : ∀ (n52 : Nat) (l2 : Int) (l3 : Int) (l4 : Int) (l5 : Int) (l6 : Int) (K : jx_I), n52 = ((bo (CL c) : Int) + 1 - l6).toNat → (∃ k : Nat, l6 = (b0 + k : Nat) ∧ b0 + k ≤ bo (CL c) + 1 ∧ l2 = (bo (CL c) : Nat) ∧ l3 = (b0 : Nat) ∧ l4 = (ptf l c b0 k).1 ∧ l5 = ((ptf l c b0 k).2 : Nat) ∧ FS a0 I K) → J52 l2 l3 l4 l5 l6 K := by
      intro n52
      induction n52 using Nat.strongRecOn with
      | ind n52 ih52 =>
      intro l2 l3 l4 l5 l6 K hn52 hI52
      obtain ⟨k, rfl, hk, rfl, rfl, rfl, rfl, hF⟩ := hI52
      have h2 := GX_s h hF
      have hfs : ptf l c b0 (k + 1) = if bdf (b0 + k) (bo (CL c)) = 0 ∧ (b0 + k) &&& b0 ≠ 0 ∧ ptv l c (b0 + k) < (ptf l c b0 k).1 then (ptv l c (b0 + k), b0 + k) else ptf l c b0 k := rfl
      have hprg := ptf_rng hW hC hpJ b0 k
      refine hJ52 _ _ _ _ _ _ ?_
      unfold wz_167_52
      refine ⟨by omega, by omega, ?_⟩
      refine ⟨fun hq2 => ?_, fun hq2 => ?_⟩
      · rw [show bo (CL c) + 1 - b0 = k by omega]
        refine ⟨fun hq3 => ?_, fun hq3 => ?_⟩
        · exact ⟨by rw [nz_t hp1, nz_t hpJ], by rw [if_neg hne, if_neg (by omega)], hF⟩
        · exact ⟨by rw [nz_t hp1, nz_t hpJ], by rw [if_neg hne, if_pos (by omega)], hF⟩
      · have had := jz_adn (A := b0 + k) (B := bo (CL c)) (by omega) (by omega)
        have had2 := jz_adn (A := bo (CL c)) (B := b0 + k) (by omega) (by omega)
        have had3 := jz_and (a := b0 + k) (b := b0) (by omega) (by omega)
        have hbd : bdf (bo (CL c)) (b0 + k) < 2 ^ 8 := bdf_le _ _ hbo
        have hwr := hwb_rng hW hC hpJ (bdf (bo (CL c)) (b0 + k))
        have hwr2 := hwb_rng hW hC hpJ (b0 + k)
        try simp only [-eq_self, had, had3]
        refine ⟨fun hq4 => ?_, fun hq4 => ?_⟩
        · exact ih52 _ (by omega) _ _ _ _ _ _ rfl (⟨k + 1, by omega, by omega, rfl, rfl, by rw [hfs, if_neg (by intro h; omega)], by rw [hfs, if_neg (by intro h; omega)], hF⟩)
        · refine ⟨fun hq5 => ?_, fun hq5 => ?_⟩
          · exact ih52 _ (by omega) _ _ _ _ _ _ rfl (⟨k + 1, by omega, by omega, rfl, rfl, by rw [hfs, if_neg (by intro h; omega)], by rw [hfs, if_neg (by intro h; omega)], hF⟩)
          · refine ⟨s_GC_0 h.1, ?_⟩
            refine ⟨_, cz_195 (B := b0 + k) hV h2 hpJ rfl (by omega), ?_⟩
            rintro _ I34 ⟨rfl, hF2⟩
            refine ⟨_, rfl, ?_⟩
            refine ⟨fun hq6 => ?_, fun hq6 => ?_⟩
            · have hpv : ptv l c (b0 + k) = max (hwb l c (b0 + k)) (hwb l c (bdf (bo (CL c)) (b0 + k))) := by unfold ptv; rw [if_neg (by omega)]
              try simp only [-eq_self, had2]
              refine ⟨_, cz_195 (B := bdf (bo (CL c)) (b0 + k)) hV (GX_s h2 hF2) hpJ rfl (by omega), ?_⟩
              rintro _ I38 ⟨rfl, hF3⟩
              refine ⟨_, rfl, ?_⟩
              refine hJ100 _ _ _ _ _ _ _ _ ?_
              unfold wz_167_100
              refine ⟨_, cz_328 hV (by omega) (by omega), ?_⟩
              rintro _ I42 ⟨rfl, e9⟩; replace e9 := e9.symm; subst e9
              refine ⟨_, rfl, ?_⟩
              refine ⟨by omega, by omega, ?_⟩
              refine ⟨fun hq7 => ?_, fun hq7 => ?_⟩
              · exact ih52 _ (by omega) _ _ _ _ _ _ rfl (⟨k + 1, by omega, by omega, rfl, rfl, by rw [hfs, if_neg (by intro h; omega)], by rw [hfs, if_neg (by intro h; omega)], FS_trans (FS_trans hF hF2) hF3⟩)
              · refine hJ120 _ _ _ _ _ _ ?_
                unfold wz_167_120
                exact ih52 _ (by omega) _ _ _ _ _ _ rfl (⟨k + 1, by omega, by omega, rfl, rfl, by rw [hfs, if_pos (by refine ⟨by omega, by omega, by omega⟩)]; exact hpv.symm, by rw [hfs, if_pos (by refine ⟨by omega, by omega, by omega⟩)], FS_trans (FS_trans hF hF2) hF3⟩)
            · have hpv : ptv l c (b0 + k) = max (hwb l c (b0 + k)) 0 := by unfold ptv; rw [if_pos (by omega)]
              refine hJ100 _ _ _ _ _ _ _ _ ?_
              unfold wz_167_100
              refine ⟨_, cz_328 hV (by omega) (by omega), ?_⟩
              rintro _ I42 ⟨rfl, e9⟩; replace e9 := e9.symm; subst e9
              refine ⟨_, rfl, ?_⟩
              refine ⟨by omega, by omega, ?_⟩
              refine ⟨fun hq8 => ?_, fun hq8 => ?_⟩
              · exact ih52 _ (by omega) _ _ _ _ _ _ rfl (⟨k + 1, by omega, by omega, rfl, rfl, by rw [hfs, if_neg (by intro h; omega)], by rw [hfs, if_neg (by intro h; omega)], FS_trans hF hF2⟩)
              · refine hJ120 _ _ _ _ _ _ ?_
                unfold wz_167_120
                exact ih52 _ (by omega) _ _ _ _ _ _ rfl (⟨k + 1, by omega, by omega, rfl, rfl, by rw [hfs, if_pos (by refine ⟨by omega, by omega, by omega⟩)]; exact hpv.symm, by rw [hfs, if_pos (by refine ⟨by omega, by omega, by omega⟩)], FS_trans hF hF2⟩)
    exact L52 _ _ _ _ _ _ _ rfl (⟨0, by rw [Nat.add_zero]; exact hsh, by omega, rfl, hsh, rfl, rfl, FS_refl⟩)
  · refine ⟨by rw [nz_t hp1, nz_t hpJ], ?_, FS_refl⟩
    rw [if_pos]
    by_cases e : CL c = []
    · exact e
    · exact absurd (by omega) (bo_ne e)
