/-! ===== least, widest, both sides ===== -/
theorem FS_w {b ld : Nat} {I I' I2 : jx_I} (h : FS b I I') (h2 : FR2 (b + 24 + 1) (b + 24 + 3) (ld + 9) (ld + 11) I' I2) (ho : ld = b + 36 ∨ ld = b + 47) : FS b I I2 :=
  ⟨fun q h3 h4 h5 h6 => (h2 q (by omega) (by omega)).trans (h.1 q h3 h4 h5 h6), by rw [h2 (b + 23) (by omega) (by omega)]; exact h.2⟩
/-- what least answers -/
noncomputable def lsa (l : LT) (c : CT) (x t : Nat) (w : Int) : Int64 := if w = 0 ∨ dst l (hh l c) x t = -1 then (Int32.ofInt (dst l (hh l c) x t)).toInt64 else if w = 1 then lN (pl l (hh l c) t x).length else lN (dec (pl l (hh l c) t x))
/-- widest: the hours, the pair, of a's first j, of the first i -/
noncomputable def wdr (l : LT) (h : Nat → Int) (a : Nat) : Nat → Int × Int → Int × Int
  | 0, s => s
  | j + 1, s => if a ≠ j ∧ (wdr l h a j s).1 < dst l h a j then (dst l h a j, (a : Int) * 10 + (j : Int)) else wdr l h a j s
noncomputable def wdo (l : LT) (h : Nat → Int) : Nat → Int × Int
  | 0 => (-1, -1)
  | i + 1 => wdr l h i (Ln l) (wdo l h i)
theorem wdr_y {l : LT} {h : Nat → Int} {a j : Nat} {s : Int × Int} (e : a ≠ j ∧ (wdr l h a j s).1 < dst l h a j) : wdr l h a (j + 1) s = (dst l h a j, (a : Int) * 10 + (j : Int)) := if_pos e
theorem wdr_n {l : LT} {h : Nat → Int} {a j : Nat} {s : Int × Int} (e : ¬ (a ≠ j ∧ (wdr l h a j s).1 < dst l h a j)) : wdr l h a (j + 1) s = wdr l h a j s := if_neg e
def wdk (s : Int × Int) : Prop := (-1 ≤ s.1 ∧ s.1 ≤ 1230) ∧ -1 ≤ s.2 ∧ s.2 ≤ 110
theorem wdr_k {l : LT} {h : Nat → Int} (hW : WT l) (hH : HP l h) {a : Nat} (ha : a < Ln l) {s : Int × Int} (hs : wdk s) : ∀ j, j ≤ Ln l → wdk (wdr l h a j s)
  | 0, _ => hs
  | j + 1, hj => by
    have h1 := wdr_k hW hH ha hs j (by omega)
    have h2 := dst_r hW hH ha (show j < Ln l by omega)
    have h3 := hW.1.1
    unfold wdr
    split
    · show (-1 ≤ dst l h a j ∧ dst l h a j ≤ 1230) ∧ -1 ≤ (a : Int) * 10 + (j : Int) ∧ (a : Int) * 10 + (j : Int) ≤ 110
      omega
    · exact h1
theorem wdo_k {l : LT} {h : Nat → Int} (hW : WT l) (hH : HP l h) : ∀ i, i ≤ Ln l → wdk (wdo l h i)
  | 0, _ => by show (-1 ≤ (-1 : Int) ∧ (-1 : Int) ≤ 1230) ∧ -1 ≤ (-1 : Int) ∧ (-1 : Int) ≤ 110; decide
  | i + 1, hi => wdr_k hW hH (by omega) (wdo_k hW hH i (by omega)) (Ln l) (Nat.le_refl _)
/-- GrievingCamels.least -/
theorem cz_163 {V : jx_V} (hV : V.1.stackTraces = false) {X : jx_X} {R : jx_R} {I : jx_I} {a0 : Nat} {a1 : Int} {a2 : Int} {a3 : Int} {ld : Nat} {l : LT} {c : CT} 
    (h : GX X R I a0 ld l c) (r_a1 : -2147483648 ≤ a1 ∧ a1 < 2147483648) (r_a2 : -2147483648 ≤ a2 ∧ a2 < 2147483648) (r_a3 : -2147483648 ≤ a3 ∧ a3 < 2147483648)
    : jc V 10 163 (3, 18) [.ref a0, jy a1, jy a2, jy a3] X I R (fun rv I' => nz (0 ≤ a1 ∧ a1 < (Ln l : Nat)) 0 (nz (0 ≤ a2 ∧ a2 < (Ln l : Nat)) 0 (nz (0 ≤ a3 ∧ a3 ≤ 2) 2 (none))) = none ∧ rv = some (.long (lsa l c a1.toNat a2.toNat a3)) ∧ FS a0 I I') (fun E I' => ∃ k, nz (0 ≤ a1 ∧ a1 < (Ln l : Nat)) 0 (nz (0 ≤ a2 ∧ a2 < (Ln l : Nat)) 0 (nz (0 ≤ a3 ∧ a3 ≤ 2) 2 (none))) = some k ∧ E = (jx_exe k).1 ∧ I' = rfs I a0 k) := by
  have hW := h.2.2.2.1
  have hW0 := hW.1
  refine wm_163 hV (by omega) (by omega) (by omega)  ?_
  have hl := GX_l h
  have hD := h.2.2.1; have hS := h.2.2.2.2.1; have hC := h.2.2.2.2.2.1; have hlo := h.2.1.2
  unfold wz_163
  refine ⟨s_GC_0 h.1, ?_⟩
  refine ⟨_, _, cz_187 hV h (by omega), fun Ex Ix h9 => ⟨0, by rw [nz_f h9.2.2], h9.1, h9.2.1⟩, ?_⟩
  rintro _ I6 ⟨rfl, e9, hp1⟩; replace e9 := e9.symm; subst e9
  refine ⟨rfl, ?_⟩
  refine ⟨_, _, cz_187 hV h (by omega), fun Ex Ix h9 => ⟨0, by rw [nz_t hp1]; rw [nz_f h9.2.2], h9.1, h9.2.1⟩, ?_⟩
  rintro _ I12 ⟨rfl, e9, hp2⟩; replace e9 := e9.symm; subst e9
  refine ⟨rfl, ?_⟩
  refine ⟨_, _, cz_190 hV h.1 (by omega) (by omega), fun Ex Ix h9 => ⟨2, by rw [nz_t hp1]; rw [nz_t hp2]; rw [nz_f h9.2.2], h9.1, h9.2.1⟩, ?_⟩
  rintro _ I18 ⟨rfl, e9, hp3⟩; replace e9 := e9.symm; subst e9
  refine ⟨rfl, ?_⟩
  refine ⟨_, r_GC_0_6 h.1, _, h.2.1.1, _, r_GC_0_2 h.1, s_Ways_0 (b_GC_24 h.1), ?_⟩
  refine ⟨_, cz_127 hV (b_GC_24 h.1) hl (b_GC_4 h.1) hD h.2.2.2.1 hS hC (by omega) (by omega) (by omega), ?_⟩
  rintro _ I29 ⟨rfl, hY, hF⟩
  refine ⟨rfl, ?_⟩
  have hFS := FS_w FS_refl hF hlo
  have hdr := dst_r h.2.2.2.1 (HP_hh l c) (a := a1.toNat) (b := a2.toNat) (by omega) (by omega)
  refine ⟨_, cz_129 hV (b_GC_24 h.1) hY h.2.2.2.1 (HP_hh l c) hp1 hp2, ?_⟩
  rintro _ I33 ⟨rfl, e9⟩; replace e9 := e9.symm; subst e9
  refine ⟨_, rfl, ?_⟩
  refine ⟨fun hq1 => ?_, fun hq1 => ?_⟩
  · exact ⟨by rw [nz_t hp1, nz_t hp2, nz_t hp3], by unfold lsa; rw [if_pos (Or.inl hq1)], hFS⟩
  · refine ⟨by omega, ?_⟩
    refine ⟨fun hq2 => ?_, fun hq2 => ?_⟩
    · refine ⟨_, r_GC_0_8 h.1, ?_⟩
      refine ⟨_, cz_130 (x := a1.toNat) (t := a2.toNat) hV (b_GC_24 h.1) hl (b_GC_28 h.1) (LD_fr2 hD hF (by omega) (by omega)) hY h.2.2.2.1 (HP_hh l c) (by omega) (by omega) (by omega) (by omega) (by omega) (by omega) (by omega), ?_⟩
      rintro _ I40 ⟨rfl, hR4, hF4⟩
      refine ⟨rfl, ?_⟩
      have hFS2 := FS_fr hFS hF4 (by omega)
      refine ⟨fun hq3 => ?_, fun hq3 => ?_⟩
      · refine ⟨s_Row_0 (b_GC_28 h.1), ?_⟩
        refine ⟨_, cz_81 hV (b_GC_28 h.1) hR4, ?_⟩
        rintro _ I45 ⟨rfl, e9⟩; replace e9 := e9.symm; subst e9
        refine ⟨_, rfl, ?_⟩
        exact ⟨by rw [nz_t hp1, nz_t hp2, nz_t hp3], by unfold lsa; rw [if_neg (by omega), if_neg (by omega)], hFS2⟩
      · refine ⟨s_Row_0 (b_GC_28 h.1), ?_⟩
        exact ⟨by rw [nz_t hp1, nz_t hp2, nz_t hp3], by unfold lsa; rw [if_neg (by omega), if_pos (by omega), hR4.1, jz_ofI, nI_l (by have := hR4.2.1; omega)], hFS2⟩
    · exact ⟨by rw [nz_t hp1, nz_t hp2, nz_t hp3], by unfold lsa; rw [if_pos (Or.inr (by omega))], hFS⟩
/-- GrievingCamels.widest -/
theorem cz_164 {V : jx_V} (hV : V.1.stackTraces = false) {X : jx_X} {R : jx_R} {I : jx_I} {a0 : Nat} {a1 : Int} {ld : Nat} {l : LT} {c : CT} 
    (h : GX X R I a0 ld l c) (r_a1 : -2147483648 ≤ a1 ∧ a1 < 2147483648)
    : jc V 10 164 (1, 6) [.ref a0, jy a1] X I R (fun rv I' => nz (0 ≤ a1 ∧ a1 ≤ 1) 2 (none) = none ∧ rv = some (jy (if a1 = 0 then (wdo l (hh l c) (Ln l)).1 else (wdo l (hh l c) (Ln l)).2)) ∧ FS a0 I I') (fun E I' => ∃ k, nz (0 ≤ a1 ∧ a1 ≤ 1) 2 (none) = some k ∧ E = (jx_exe k).1 ∧ I' = rfs I a0 k) := by
  have hW := h.2.2.2.1
  have hW0 := hW.1
  refine wm_164 hV (by omega)  (fun J28 J43 J98 hJJ => ?_)
  obtain ⟨hJ28, hJ43, hJ98⟩ := hJJ
  have hl := GX_l h
  have hD := h.2.2.1; have hS := h.2.2.2.2.1; have hC := h.2.2.2.2.2.1; have hlo := h.2.1.2
  unfold wz_164
  refine ⟨s_GC_0 h.1, ?_⟩
  refine ⟨_, _, cz_190 hV h.1 (by omega) (by omega), fun Ex Ix h9 => ⟨2, by rw [nz_f h9.2.2], h9.1, h9.2.1⟩, ?_⟩
  rintro _ I6 ⟨rfl, e9, hp1⟩; replace e9 := e9.symm; subst e9
  refine ⟨rfl, ?_⟩
  refine ⟨_, r_GC_0_6 h.1, _, h.2.1.1, _, r_GC_0_2 h.1, s_Ways_0 (b_GC_24 h.1), ?_⟩
  refine ⟨_, cz_127 hV (b_GC_24 h.1) hl (b_GC_4 h.1) hD h.2.2.2.1 hS hC (by omega) (by omega) (by omega), ?_⟩
  rintro _ I17 ⟨rfl, hY, hF⟩
  refine ⟨rfl, ?_⟩
  have hFS := FS_w FS_refl hF hlo
  have L28 : ∀ (n28 : Nat) (l2 : Int) (l3 : Int) (l4 : Int) (K1 : jx_I), n28 = ((Ln l : Int) - l4).toNat → (∃ i : Nat, l4 = (i : Int) ∧ i ≤ Ln l ∧ l2 = (wdo l (hh l c) i).1 ∧ l3 = (wdo l (hh l c) i).2 ∧ WY K1 (a0 + 24) l (hh l c) ∧ FS a0 I K1) → J28 l2 l3 l4 K1 := by
    intro n28
    induction n28 using Nat.strongRecOn with
    | ind n28 ih28 =>
    intro l2 l3 l4 K1 hn28 hI28
    obtain ⟨i, rfl, hi, rfl, rfl, hYK, hFK⟩ := hI28
    have h9 := GX_s h hFK
    have hD9 := h9.2.2.1
    have hn7 := hD9.1.1
    have hW9 := h.2.2.2.1
    have hH9 := HP_hh l c
    have hwk := wdo_k hW9 hH9 i hi
    refine hJ28 _ _ _ _ ?_
    unfold wz_164_28
    refine ⟨s_GC_0 h.1, _, h.2.1.1, s_Land_0 hl, by omega, ?_⟩
    refine ⟨fun hq1 => ?_, fun hq1 => ?_⟩
    · refine ⟨fun hq2 => ?_, fun hq2 => ?_⟩
      · rw [show i = Ln l by omega]
        exact ⟨by rw [nz_t hp1], by rw [if_neg (by omega)], hFK⟩
      · rw [show i = Ln l by omega]
        exact ⟨by rw [nz_t hp1], by rw [if_pos (by omega)], hFK⟩
    · have L43 : ∀ (n43 : Nat) (l2 : Int) (l3 : Int) (l4 : Int) (l5 : Int) (K2 : jx_I), n43 = ((Ln l : Int) - l5).toNat → (∃ j : Nat, l4 = (i : Int) ∧ l5 = (j : Int) ∧ i < Ln l ∧ j ≤ Ln l ∧ l2 = (wdr l (hh l c) i j (wdo l (hh l c) i)).1 ∧ l3 = (wdr l (hh l c) i j (wdo l (hh l c) i)).2 ∧ WY K2 (a0 + 24) l (hh l c) ∧ FS a0 I K2) → J43 l2 l3 l4 l5 K2 := by
        intro n43
        induction n43 using Nat.strongRecOn with
        | ind n43 ih43 =>
        intro l2 l3 l4 l5 K2 hn43 hI43
        obtain ⟨j, rfl, rfl, hi, hj, rfl, rfl, hYK, hFK⟩ := hI43
        have h9 := GX_s h hFK
        have hD9 := h9.2.2.1
        have hn7 := hD9.1.1
        have hW9 := h.2.2.2.1
        have hH9 := HP_hh l c
        have hwk := wdr_k hW9 hH9 hi (wdo_k hW9 hH9 i (by omega)) j hj
        unfold wdk at hwk
        refine hJ43 _ _ _ _ _ ?_
        unfold wz_164_43
        refine ⟨s_GC_0 h.1, _, h.2.1.1, s_Land_0 hl, by omega, ?_⟩
        refine ⟨fun hq3 => ?_, fun hq3 => ?_⟩
        · exact ih28 _ (by omega) _ _ _ _ rfl (⟨i + 1, by omega, by omega, by rw [show j = Ln l by omega]; rfl, by rw [show j = Ln l by omega]; rfl, hYK, hFK⟩)
        · refine ⟨by omega, ?_⟩
          refine ⟨fun hq4 => ?_, fun hq4 => ?_⟩
          · exact ih43 _ (by omega) _ _ _ _ _ rfl (⟨j + 1, rfl, by omega, hi, by omega, by rw [wdr_n (by omega)], by rw [wdr_n (by omega)], hYK, hFK⟩)
          · refine ⟨_, r_GC_0_6 h.1, s_Ways_0 (b_GC_24 h.1), ?_⟩
            refine ⟨_, cz_129 (h := hh l c) hV (b_GC_24 h.1) hYK hW9 hH9 (by omega) (by omega), ?_⟩
            rintro _ I35 ⟨rfl, e9⟩; replace e9 := e9.symm; subst e9
            refine ⟨_, rfl, ?_⟩
            have hdij := dst_r hW9 hH9 (a := i) (b := j) hi (by omega)
            simp only [-eq_self, Int.toNat_natCast]
            refine ⟨by omega, by omega, ?_⟩
            refine ⟨fun hq5 => ?_, fun hq5 => ?_⟩
            · exact ih43 _ (by omega) _ _ _ _ _ rfl (⟨j + 1, rfl, by omega, hi, by omega, by rw [wdr_n (fun k => absurd k.2 (by omega))], by rw [wdr_n (fun k => absurd k.2 (by omega))], hYK, hFK⟩)
            · refine ⟨_, cz_129 (h := hh l c) hV (b_GC_24 h.1) hYK hW9 hH9 (by omega) (by omega), ?_⟩
              rintro _ I41 ⟨rfl, e9⟩; replace e9 := e9.symm; subst e9
              refine ⟨_, rfl, ?_⟩
              try simp only [-eq_self, Int.toNat_natCast]
              refine hJ98 _ _ _ _ _ ?_
              unfold wz_164_98
              exact ih43 _ (by omega) _ _ _ _ _ rfl (⟨j + 1, rfl, by omega, hi, by omega, by rw [wdr_y ⟨by omega, by omega⟩], by rw [wdr_y ⟨by omega, by omega⟩], hYK, hFK⟩)
      exact L43 _ _ _ _ _ _ rfl (⟨0, rfl, rfl, by omega, by omega, rfl, rfl, hYK, hFK⟩)
  exact L28 _ _ _ _ _ rfl (⟨0, rfl, by omega, rfl, rfl, hY, hFS⟩)
/-- within a round of the reference: rows below a, and of a the first b -/
def IR (l : LT) (h : Nat → Int) (t r : Nat) (u0 : Nat → Int) (a b : Nat) (u : Nat → Int) : Prop := u t = 0 ∧ (∀ x, x < Ln l → -1 ≤ u x ∧ u x ≤ 12300 * (r : Int) + 1230 * (a : Int) + 123 * (b : Int) ∧ (u x = -1 ∨ (x = t ∧ u x = 0) ∨ ∃ M, ie l x M t ∧ iw l h x M t = u x)) ∧ (∀ x, x < Ln l → u0 x ≠ -1 → u x ≠ -1 ∧ u x ≤ u0 x) ∧ ∀ x y, x < Ln l → y < Ln l → (x < a ∨ (x = a ∧ y < b)) → Lr l x y ≠ 0 → u0 y ≠ -1 → u x ≠ -1 ∧ u x ≤ Lr l x y + h y + u0 y
theorem IR_0 {l : LT} {h : Nat → Int} {t r : Nat} {u : Nat → Int} (hu : BF l h t r u) : IR l h t r u 0 0 u :=
  ⟨hu.1, fun x hx => ⟨(hu.2.1 x hx).1, by have := (hu.2.1 x hx).2.1; omega, (hu.2.1 x hx).2.2⟩, fun x _ h1 => ⟨h1, Int.le_refl _⟩, fun x y _ _ h1 => by omega⟩
theorem BF_0 {l : LT} {h : Nat → Int} {t : Nat} : BF l h t 0 (fun q => if q = t then 0 else -1) := by
  refine ⟨if_pos rfl, fun a ha => ?_, fun a M _ _ h => absurd h (by omega)⟩
  show -1 ≤ (if a = t then (0 : Int) else -1) ∧ (if a = t then (0 : Int) else -1) ≤ 12300 * ((0 : Nat) : Int) ∧ ((if a = t then (0 : Int) else -1) = -1 ∨ (a = t ∧ (if a = t then (0 : Int) else -1) = 0) ∨ ∃ M, ie l a M t ∧ iw l h a M t = (if a = t then (0 : Int) else -1))
  by_cases e : a = t
  · rw [if_pos e]; exact ⟨by decide, by decide, Or.inr (Or.inl ⟨e, rfl⟩)⟩
  · rw [if_neg e]; exact ⟨by decide, by decide, Or.inl rfl⟩
theorem IR_row {l : LT} {h : Nat → Int} {t r a b : Nat} {u0 u : Nat → Int} (hn : Ln l ≤ 10) (hb : b = Ln l) (hu : IR l h t r u0 a b u) : IR l h t r u0 (a + 1) 0 u :=
  ⟨hu.1, fun x hx => ⟨(hu.2.1 x hx).1, by have := (hu.2.1 x hx).2.1; omega, (hu.2.1 x hx).2.2⟩, hu.2.2.1, fun x y hx hy h1 => hu.2.2.2 x y hx hy (by omega)⟩
theorem IR_end {l : LT} {h : Nat → Int} {t r a : Nat} {u0 u : Nat → Int} (hn : Ln l ≤ 10) (ht : t < Ln l) (ha : a = Ln l) (h0 : BF l h t r u0) (hu : IR l h t r u0 a 0 u) : BF l h t (r + 1) u := by
  refine ⟨hu.1, fun x hx => ⟨(hu.2.1 x hx).1, by have := (hu.2.1 x hx).2.1; omega, (hu.2.1 x hx).2.2⟩, fun x M hx hM hl => ?_⟩
  cases M with
  | nil =>
    have := hu.2.2.2 x t hx ht (by omega) hM (by rw [h0.1]; decide)
    rw [h0.1] at this
    refine ⟨this.1, ?_⟩
    show u x ≤ Lr l x t + h t
    omega
  | cons c M =>
    have h1 := h0.2.2 c M hM.1 hM.2.2 (by simp only [List.length_cons] at hl; omega)
    have h2 := hu.2.2.2 x c hx hM.1 (by omega) hM.2.1 h1.1
    refine ⟨h2.1, ?_⟩
    show u x ≤ Lr l x c + h c + iw l h c M t
    omega
theorem IR_skip {l : LT} {h : Nat → Int} {t r a b : Nat} {u0 u : Nat → Int} (hb : b < Ln l) (hu : IR l h t r u0 a b u) (hk : Lr l a b = 0 ∨ u b = -1) : IR l h t r u0 a (b + 1) u := by
  refine ⟨hu.1, fun x hx => ⟨(hu.2.1 x hx).1, by have := (hu.2.1 x hx).2.1; omega, (hu.2.1 x hx).2.2⟩, hu.2.2.1, fun x y hx hy h1 h2 h3 => ?_⟩
  by_cases e : x = a ∧ y = b
  · rw [e.1, e.2] at h2
    rw [e.2] at h3
    rcases hk with hk | hk
    · exact absurd hk h2
    · exact absurd hk (hu.2.2.1 b hb h3).1
  · exact hu.2.2.2 x y hx hy (by omega) h2 h3
theorem IR_step {l : LT} {h : Nat → Int} {t r a b : Nat} {u0 u : Nat → Int} {w : Int} (hW : WT l) (hH : HP l h) (ht : t < Ln l) (ha : a < Ln l) (hb : b < Ln l) (hu : IR l h t r u0 a b u) (hk : Lr l a b ≠ 0) (hk2 : u b ≠ -1) (hw : (w = Lr l a b + h b + u b ∧ (u a = -1 ∨ Lr l a b + h b + u b < u a)) ∨ (w = u a ∧ u a ≠ -1 ∧ u a ≤ Lr l a b + h b + u b)) : IR l h t r u0 a (b + 1) (fun x => if x = a then w else u x) := by
  have h1 := ie_1 hW ha hb hk
  have h2 := hH b hb
  have hub1 : -1 ≤ u b ∧ u b ≤ 12300 * (r : Int) + 1230 * (a : Int) + 123 * (b : Int) := ⟨(hu.2.1 b hb).1, (hu.2.1 b hb).2.1⟩
  have hua1 : -1 ≤ u a ∧ u a ≤ 12300 * (r : Int) + 1230 * (a : Int) + 123 * (b : Int) := ⟨(hu.2.1 a ha).1, (hu.2.1 a ha).2.1⟩
  have hwle : w ≠ -1 ∧ w ≤ Lr l a b + h b + u b ∧ (u a ≠ -1 → w ≤ u a) := by omega
  have hut := hu.1
  have hsm : ∀ x, x < Ln l → u x ≠ -1 → (if x = a then w else u x) ≠ -1 ∧ (if x = a then w else u x) ≤ u x := fun x _ hx2 => by
    by_cases e : x = a
    · rw [if_pos e, e]; rw [e] at hx2; exact ⟨hwle.1, hwle.2.2 hx2⟩
    · rw [if_neg e]; exact ⟨hx2, Int.le_refl _⟩
  refine ⟨?_, fun x hx => ?_, fun x hx h3 => ?_, fun x y hx hy h3 h4 h5 => ?_⟩
  · by_cases e : t = a
    · show (if t = a then w else u t) = 0
      rw [if_pos e]
      rw [e] at hut
      omega
    · show (if t = a then w else u t) = 0
      rw [if_neg e]; exact hut
  · by_cases e : x = a
    · simp only [if_pos e]
      refine ⟨by omega, by omega, ?_⟩
      rcases hw with hw | hw
      · rcases (hu.2.1 b hb).2.2 with g | g | ⟨N, g1, g2⟩
        · exact absurd g hk2
        · exact Or.inr (Or.inr ⟨[], by rw [e, ← g.1]; exact hk, by rw [e, hw.1, g.2, ← g.1]; show Lr l a b + h b = Lr l a b + h b + 0; omega⟩)
        · exact Or.inr (Or.inr ⟨b :: N, by rw [e]; exact ⟨hb, hk, g1⟩, by rw [e, hw.1, ← g2]; rfl⟩)
      · have hua := (hu.2.1 a ha).2.2
        rw [hw.1, ← e]; rw [← e] at hua; exact hua
    · simp only [if_neg e]
      exact ⟨(hu.2.1 x hx).1, by have := (hu.2.1 x hx).2.1; omega, (hu.2.1 x hx).2.2⟩
  · have g1 := hu.2.2.1 x hx h3
    have g2 := hsm x hx g1.1
    exact ⟨g2.1, Int.le_trans g2.2 g1.2⟩
  · by_cases e : x = a ∧ y = b
    · rw [e.2] at h5
      have g1 := hu.2.2.1 b hb h5
      show (if x = a then w else u x) ≠ -1 ∧ (if x = a then w else u x) ≤ Lr l x y + h y + u0 y
      rw [if_pos e.1, e.1, e.2]
      omega
    · have g1 := hu.2.2.2 x y hx hy (by omega) h4 h5
      have g2 := hsm x hx g1.1
      exact ⟨g2.1, Int.le_trans g2.2 g1.2⟩
/-- of the reference only the stack and the hours left change -/
def FE (m : Nat) (I I' : jx_I) : Prop := ∀ q, q ≠ m + 1286 → q ≠ m + 1367 → I' q = I q
theorem FE_t {m lo hi : Nat} {I I' I2 : jx_I} (h : FE m I I') (h2 : FR lo hi I' I2) (ho : (m + 1286 ≤ lo ∧ hi ≤ m + 1287) ∨ (m + 1367 ≤ lo ∧ hi ≤ m + 1368)) : FE m I I2 := fun q h3 h4 => (h2 q (by omega)).trans (h q h3 h4)
theorem FE_u {m k : Nat} {I I' : jx_I} {v : Int32} (h : FE m I I') : FE m I (jx_u I' (m + 1367) k v) := fun q h3 h4 => by rw [jx_u_r _ _ _ h4]; exact h q h3 h4
theorem FE_k {m : Nat} {ks : List Nat} {I I' : jx_I} (h : FE m I I') : FK m ks I I' := ⟨fun q h1 h2 h3 => h q h2 (by omega), fun k _ => by rw [h m (by omega) (by omega)]⟩
theorem FE_MD {m : Nat} {I I' : jx_I} {l : LT} (h : MD I m l) (hf : FE m I I') (hW : WT l) : MD I' m l := FK_MD h (FE_k (ks := []) hf) (by decide) hW
theorem FE_MN {m : Nat} {I I' : jx_I} {l : LT} {L : List Nat} {g d : GT} (h : MN I m l L g d) (hf : FE m I I') (hW : WT l) : MN I' m l L g d := MN_c h hW (by rw [hf m (by omega) (by omega)]) (fun q h1 h2 => hf q (by omega) (by omega))
theorem ud_s {K K' : jx_I} {x a n : Nat} {u : Nat → Int} {w : Int} (hK : ∀ q, q < n → (K x q).toInt = u q) (e : ∀ q, K' x q = K x q) (hw : -2147483648 ≤ w ∧ w < 2147483648) : ∀ q, q < n → ((jx_u K' x a (Int32.ofInt w)) x q).toInt = (fun y => if y = a then w else u y) q := by
  intro q hq
  show _ = if q = a then w else u q
  by_cases h : q = a
  · rw [h, jx_u_s, if_pos rfl, jy_toInt hw]
  · rw [jx_u_k _ _ _ _ h, if_neg h, e]; exact hK q hq
/-- GrievingCamelsModel.laysLeft -/
theorem cz_268 {V : jx_V} (hV : V.1.stackTraces = false) {X : jx_X} {R : jx_R} {I : jx_I} {a0 : Nat} {a1 : Int} {l : LT} {L : List Nat} {g d : GT} {t : Nat} {h : Nat → Int}
    (hM : MX X R a0) (hD : MD I a0 l) (hW : WT l) (hN : MN I a0 l L g d) (hG : GDn (Ln l) (Lm l) g d) (hLm : ∀ c ∈ L, c < Lm l) (hL8 : L.length ≤ 8) (h1 : a1 = (t : Int)) (ht : t < Ln l) (hh9 : h = (fun q => hlt (Lc l) (L.map (g q)) (nd (Lk l q))))
    {QE : String → jx_I → Prop} : jc V 4 268 (0, 0) [.ref a0, jy a1] X I R (fun rv I' => rv = none ∧ (∀ q, q < Ln l → (I' (a0 + 1367) q).toInt = dst l h q t) ∧ FE a0 I I') QE := by
  have hW0 := hW.1
  have hW0 := hW.1
  have hH : HP l h := by rw [hh9]; exact fun _ _ => hlt_rng _ _ _
  refine wm_268 hV (by omega)  (fun J2 J23 J32 J44 J57 J157 J158 hJJ => ?_)
  obtain ⟨hJ2, hJ23, hJ32, hJ44, hJ57, hJ157, hJ158⟩ := hJJ
  unfold wz_268
  have L2 : ∀ (n2 : Nat) (l2 : Int) (K : jx_I), n2 = (10 - l2).toNat → (∃ i : Nat, l2 = (i : Int) ∧ i ≤ 10 ∧ (∀ q, q < i → (K (a0 + 1367) q).toInt = if q = t then 0 else -1) ∧ FE a0 I K) → J2 l2 K := by
    intro n2
    induction n2 using Nat.strongRecOn with
    | ind n2 ih2 =>
    intro l2 K hn2 hI2
    obtain ⟨i, rfl, hi, hK, hF⟩ := hI2
    refine hJ2 _ _ ?_
    unfold wz_268_2
    refine ⟨by omega, ?_⟩
    refine ⟨fun hq1 => ?_, fun hq1 => ?_⟩
    · have L32 : ∀ (n32 : Nat) (l2 : Int) (K1 : jx_I), n32 = ((Ln l : Int) - l2).toNat → (∃ (r : Nat) (u : Nat → Int), l2 = (r : Int) ∧ r ≤ Ln l ∧ (∀ q, q < Ln l → (K1 (a0 + 1367) q).toInt = u q) ∧ BF l h t r u ∧ FE a0 I K1) → J32 l2 K1 := by
        intro n32
        induction n32 using Nat.strongRecOn with
        | ind n32 ih32 =>
        intro l2 K1 hn32 hI32
        obtain ⟨r, u0, rfl, hr, hK, hBF, hF⟩ := hI32
        have hD9 := FE_MD hD hF hW
        have hN9 := FE_MN hN hF hW
        have h40 := hD9.1.1
        refine hJ32 _ _ ?_
        unfold wz_268_32
        refine ⟨s_M_0 hM, _, r_M_11 hM, _, ⟨s_M_4 hM, by decide⟩, ?_⟩
        try simp only [-eq_self, show (0 : Int).toNat = 0 from rfl, h40]
        refine ⟨by omega, by omega, ?_⟩
        refine ⟨fun hq2 => ?_, fun hq2 => ?_⟩
        · exact ⟨rfl, fun q hq => by rw [hK q hq]; exact BF_n hW hH ht hBF (by omega) hq, hF⟩
        · have L44 : ∀ (n44 : Nat) (l2 : Int) (l3 : Int) (K2 : jx_I), n44 = ((Ln l : Int) - l3).toNat → (∃ (a : Nat) (u : Nat → Int), l2 = (r : Int) ∧ l3 = (a : Int) ∧ r < Ln l ∧ a ≤ Ln l ∧ (∀ q, q < Ln l → (K2 (a0 + 1367) q).toInt = u q) ∧ IR l h t r u0 a 0 u ∧ FE a0 I K2) → J44 l2 l3 K2 := by
            intro n44
            induction n44 using Nat.strongRecOn with
            | ind n44 ih44 =>
            intro l2 l3 K2 hn44 hI44
            obtain ⟨a, u1, rfl, rfl, hr, ha, hK, hIR, hF⟩ := hI44
            have hD9 := FE_MD hD hF hW
            have hN9 := FE_MN hN hF hW
            have h40 := hD9.1.1
            refine hJ44 _ _ _ ?_
            unfold wz_268_44
            refine ⟨s_M_0 hM, _, r_M_11 hM, _, ⟨s_M_4 hM, by decide⟩, ?_⟩
            try simp only [-eq_self, show (0 : Int).toNat = 0 from rfl, h40]
            refine ⟨by omega, by omega, ?_⟩
            refine ⟨fun hq3 => ?_, fun hq3 => ?_⟩
            · exact ih32 _ (by omega) _ _ rfl (⟨r + 1, u1, by omega, by omega, hK, IR_end hW0.1 ht (by omega) hBF hIR, hF⟩)
            · have L57 : ∀ (n57 : Nat) (l2 : Int) (l3 : Int) (l4 : Int) (K3 : jx_I), n57 = ((Ln l : Int) - l4).toNat → (∃ (b : Nat) (u : Nat → Int), l2 = (r : Int) ∧ l3 = (a : Int) ∧ l4 = (b : Int) ∧ r < Ln l ∧ a < Ln l ∧ b ≤ Ln l ∧ (∀ q, q < Ln l → (K3 (a0 + 1367) q).toInt = u q) ∧ IR l h t r u0 a b u ∧ FE a0 I K3) → J57 l2 l3 l4 K3 := by
                intro n57
                induction n57 using Nat.strongRecOn with
                | ind n57 ih57 =>
                intro l2 l3 l4 K3 hn57 hI57
                obtain ⟨b, u, rfl, rfl, rfl, hr, ha, hb, hK, hIR, hF⟩ := hI57
                have hD9 := FE_MD hD hF hW
                have hN9 := FE_MN hN hF hW
                have h40 := hD9.1.1
                refine hJ57 _ _ _ _ ?_
                unfold wz_268_57
                refine ⟨s_M_0 hM, _, r_M_11 hM, _, ⟨s_M_4 hM, by decide⟩, ?_⟩
                try simp only [-eq_self, show (0 : Int).toNat = 0 from rfl, h40]
                refine ⟨by omega, by omega, ?_⟩
                refine ⟨fun hq4 => ?_, fun hq4 => ?_⟩
                · exact ih44 _ (by omega) _ _ _ rfl (⟨a + 1, u, rfl, by omega, hr, by omega, hK, IR_row hW0.1 (by omega) hIR, hF⟩)
                · refine ⟨_, r_M_21 hM, _, ⟨s_M_24 hM, by decide⟩, by omega, _, rr_M_24 hM (by omega), _, ⟨sr_M_24 hM (by omega), by decide⟩, ?_⟩
                  try simp only [-eq_self, Int.toNat_natCast, hD9.2.2.1 a b ha (by omega)]
                  refine ⟨by omega, ?_⟩
                  refine ⟨fun hq5 => ?_, fun hq5 => ?_⟩
                  · exact ih57 _ (by omega) _ _ _ _ rfl (⟨b + 1, u, rfl, rfl, by omega, hr, ha, by omega, hK, IR_skip (by omega) hIR (Or.inl hq5), hF⟩)
                  · have hrr := (hW.2.2.1 a b ha (by omega)).1
                    refine ⟨_, r_M_50 hM, _, ⟨s_M_1367 hM, by decide⟩, ?_⟩
                    try simp only [-eq_self, Int.toNat_natCast, hK b (by omega)]
                    refine ⟨by omega, ?_⟩
                    refine ⟨fun hq6 => ?_, fun hq6 => ?_⟩
                    · refine ⟨by omega, _, rr_M_24 hM (by omega), _, ⟨sr_M_24 hM (by omega), by decide⟩, ?_⟩
                      try simp only [-eq_self, Int.toNat_natCast, hD9.2.2.1 a b ha (by omega)]
                      refine ⟨by omega, ?_⟩
                      refine ⟨_, cz_246 (p := b) hV hM hD9 hW hN9 hG hLm hL8 rfl (by omega), ?_⟩
                      rintro _ I53 ⟨rfl, hF2⟩
                      refine ⟨_, rfl, ?_⟩
                      have hKb : (I53 (a0 + 1367) b).toInt = u b := by rw [hF2 _ (by omega)]; exact hK b (by omega)
                      have hKa : (I53 (a0 + 1367) a).toInt = u a := by rw [hF2 _ (by omega)]; exact hK a ha
                      have hhb : hlt (Lc l) (L.map (g b)) (nd (Lk l b)) = h b := by rw [hh9]
                      have hHb := hH b (by omega)
                      have hub : -1 ≤ u b ∧ u b ≤ 12300 * (r : Int) + 1230 * (a : Int) + 123 * (b : Int) := ⟨(hIR.2.1 b (by omega)).1, (hIR.2.1 b (by omega)).2.1⟩
                      have hua : -1 ≤ u a ∧ u a ≤ 12300 * (r : Int) + 1230 * (a : Int) + 123 * (b : Int) := ⟨(hIR.2.1 a ha).1, (hIR.2.1 a ha).2.1⟩
                      simp only [-eq_self, Int.toNat_natCast, hKb, hKa, hhb]
                      refine ⟨by omega, by omega, ?_⟩
                      refine ⟨fun hq7 => ?_, fun hq7 => ?_⟩
                      · refine hJ157 _ _ _ _ _ _ _ ?_
                        unfold wz_268_157
                        refine ⟨_, ⟨s_M_1367 hM, by decide⟩, ?_⟩
                        try simp only [-eq_self, Int.toNat_natCast]
                        refine ⟨by omega, ?_⟩
                        intro I63 e_I63; subst e_I63
                        refine hJ158 _ _ _ _ ?_
                        unfold wz_268_158
                        exact ih57 _ (by omega) _ _ _ _ rfl (⟨b + 1, _, rfl, rfl, by omega, hr, ha, by omega, ud_s hK (fun q => by rw [hF2 _ (by omega)]) (by omega), IR_step hW hH ht ha (by omega) hIR (by omega) (by omega) (Or.inl ⟨rfl, Or.inl hq7⟩), FE_u (FE_t hF hF2 (by omega))⟩)
                      · refine ⟨by omega, by omega, ?_⟩
                        refine ⟨fun hq8 => ?_, fun hq8 => ?_⟩
                        · refine ⟨by omega, ?_⟩
                          refine hJ157 _ _ _ _ _ _ _ ?_
                          unfold wz_268_157
                          refine ⟨_, ⟨s_M_1367 hM, by decide⟩, ?_⟩
                          try simp only [-eq_self, Int.toNat_natCast]
                          refine ⟨by omega, ?_⟩
                          intro I63 e_I63; subst e_I63
                          refine hJ158 _ _ _ _ ?_
                          unfold wz_268_158
                          exact ih57 _ (by omega) _ _ _ _ rfl (⟨b + 1, _, rfl, rfl, by omega, hr, ha, by omega, ud_s hK (fun q => by rw [hF2 _ (by omega)]) (by omega), IR_step hW hH ht ha (by omega) hIR (by omega) (by omega) (Or.inr ⟨rfl, hq7, hq8⟩), FE_u (FE_t hF hF2 (by omega))⟩)
                        · refine hJ157 _ _ _ _ _ _ _ ?_
                          unfold wz_268_157
                          refine ⟨_, ⟨s_M_1367 hM, by decide⟩, ?_⟩
                          try simp only [-eq_self, Int.toNat_natCast]
                          refine ⟨by omega, ?_⟩
                          intro I63 e_I63; subst e_I63
                          refine hJ158 _ _ _ _ ?_
                          unfold wz_268_158
                          exact ih57 _ (by omega) _ _ _ _ rfl (⟨b + 1, _, rfl, rfl, by omega, hr, ha, by omega, ud_s hK (fun q => by rw [hF2 _ (by omega)]) (by omega), IR_step hW hH ht ha (by omega) hIR (by omega) (by omega) (Or.inl ⟨rfl, Or.inr (by omega)⟩), FE_u (FE_t hF hF2 (by omega))⟩)
                    · refine hJ158 _ _ _ _ ?_
                      unfold wz_268_158
                      exact ih57 _ (by omega) _ _ _ _ rfl (⟨b + 1, u, rfl, rfl, by omega, hr, ha, by omega, hK, IR_skip (by omega) hIR (Or.inr hq6), hF⟩)
              exact L57 _ _ _ _ _ rfl (⟨0, u1, rfl, rfl, rfl, by omega, by omega, by omega, hK, hIR, hF⟩)
          exact L44 _ _ _ _ rfl (⟨0, u0, rfl, rfl, by omega, by omega, hK, IR_0 hBF, hF⟩)
      exact L32 _ _ _ rfl (⟨0, fun q => if q = t then 0 else -1, rfl, by omega, fun q hq => hK q (by omega), BF_0, hF⟩)
    · refine ⟨s_M_0 hM, _, r_M_50 hM, ?_⟩
      refine ⟨fun hq9 => ?_, fun hq9 => ?_⟩
      · refine hJ23 _ _ _ _ _ ?_
        unfold wz_268_23
        refine ⟨_, ⟨s_M_1367 hM, by decide⟩, ?_⟩
        try simp only [-eq_self, Int.toNat_natCast]
        refine ⟨by omega, ?_⟩
        intro I8 e_I8; subst e_I8
        exact ih2 _ (by omega) _ _ rfl (⟨i + 1, by omega, by omega, fun q hq => by
          by_cases e : q = i
          · rw [e, jx_u_s, if_neg (by omega)]; exact jy_toInt (by omega)
          · rw [jx_u_k _ _ _ _ e]; exact hK q (by omega), FE_u hF⟩)
      · refine hJ23 _ _ _ _ _ ?_
        unfold wz_268_23
        refine ⟨_, ⟨s_M_1367 hM, by decide⟩, ?_⟩
        try simp only [-eq_self, Int.toNat_natCast]
        refine ⟨by omega, ?_⟩
        intro I8 e_I8; subst e_I8
        exact ih2 _ (by omega) _ _ rfl (⟨i + 1, by omega, by omega, fun q hq => by
          by_cases e : q = i
          · rw [e, jx_u_s, if_pos (by omega)]; exact jy_toInt (by omega)
          · rw [jx_u_k _ _ _ _ e]; exact hK q (by omega), FE_u hF⟩)
  exact L2 _ _ _ rfl (⟨0, rfl, by omega, fun q h => absurd h (by omega), fun q _ _ => rfl⟩)
