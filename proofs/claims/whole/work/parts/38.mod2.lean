/-! ===== hurt, soothed; halts and values of the reference ===== -/
theorem gu_s {g : GT} {p c : Nat} {v : Int} : gu g p c v p c = v := if_pos ⟨rfl, rfl⟩
/-- fields of the reference that speak of what is kept, and of what is tried -/
def SCQ : List Nat := [36, 37, 38, 39] ++ SCR
/-- of the reference only what is kept of camels and journeys, and what is tried, changes -/
def FQ (m : Nat) (I I' : jx_I) : Prop := (∀ q, q ≠ m → (q < m + 1286 ∨ (m + 1341 ≤ q ∧ q < m + 1344) ∨ m + 1371 ≤ q) → I' q = I q) ∧ ∀ k, k ∉ SCQ → I' m k = I m k
theorem FQ_k {m : Nat} {I I' : jx_I} (h : FK m SCR I I') : FQ m I I' := ⟨fun q h1 h2 => h.1 q h1 (by omega) (by omega), fun k hk => h.2 k (fun h9 => hk (List.mem_append_right _ h9))⟩
theorem FQ_refl {m : Nat} {I : jx_I} : FQ m I I := ⟨fun _ _ _ => rfl, fun _ _ => rfl⟩
theorem FQ_trans {m : Nat} {I I' I2 : jx_I} (h : FQ m I I') (h2 : FQ m I' I2) : FQ m I I2 := ⟨fun q a b => (h2.1 q a b).trans (h.1 q a b), fun k hk => (h2.2 k hk).trans (h.2 k hk)⟩
theorem FQ_f {m k : Nat} {I I' : jx_I} {v : Int32} (h : FQ m I I') (hk : k ∈ SCQ) : FQ m I (jx_u I' m k v) := ⟨fun q a b => by rw [jx_u_r _ _ _ a]; exact h.1 q a b, fun j hj => by rw [jx_u_k _ _ _ _ (by intro e; exact hj (e ▸ hk))]; exact h.2 j hj⟩
theorem FQ_u {m a k : Nat} {I I' : jx_I} {v : Int32} (h : FQ m I I') (ha : (m + 1286 ≤ a ∧ a < m + 1341) ∨ (m + 1344 ≤ a ∧ a < m + 1371)) : FQ m I (jx_u I' a k v) := ⟨fun q b e => by rw [jx_u_r _ _ _ (by omega)]; exact h.1 q b e, fun j hj => by rw [jx_u_a _ _ _ _ (by omega)]; exact h.2 j hj⟩
theorem MSX_hd {I I' : jx_I} {m : Nat} {l : LT} {c : CT} {g d : GT} (h : MSX I m l c) (hW : WT l) (hq : ∀ q, (q < m + 1288 ∨ m + 1305 ≤ q) → I' q = I q) (hg : MH I' (m + 1288) (Ln l) (Lm l) g) (hd : MH I' (m + 1297) (Ln l) (Lm l) d) : MSX I' m l ((g, d), c.2) := by
  have hn := hW.1
  have h8 := h.2.2.2.1.2.1
  have h24 := h.2.2.2.2.2.1
  refine ⟨MD_of h.1 (by rw [hq m (by omega)]) (fun q h1 h2 => hq q (by omega)) hW, ⟨ML_of h.2.1.1 (by rw [hq m (by omega)]) (hq _ (by omega)), hg, hd⟩, ML_of h.2.2.1 (by rw [hq m (by omega)]) (hq _ (by omega)), ⟨by rw [hq m (by omega)]; exact h.2.2.2.1.1, h8, ?_⟩, ⟨by rw [hq m (by omega)]; exact h.2.2.2.2.1, h24, ?_⟩⟩
  · intro k e hk
    rw [hq _ (by omega)]
    exact h.2.2.2.1.2.2 k e hk
  · intro k e hk p q hp hq2
    rw [hq _ (by omega)]
    exact h.2.2.2.2.2.2 k e hk p q hp hq2
theorem SX_hd {I I' : jx_I} {s : Nat} {c : CT} {g d : GT} (h : SX I s c) (hF : FR (s + 2) (s + 4) I I') (hH : HD I' (s + 1) g d) : SX I' s ((g, d), c.2) := ⟨hH, RW_fr h.2.1 hF (by omega), RW_fr h.2.2.1 hF (by omega), by rw [hF s (by omega), hF (s + 9) (by omega), hF (s + 10) (by omega)]; exact h.2.2.2.1, by rw [hF s (by omega), hF (s + 11) (by omega)]; exact h.2.2.2.2⟩
/-- GrievingCamels.hurt -/
theorem cz_144 {V : jx_V} (hV : V.1.stackTraces = false) {X : jx_X} {R : jx_R} {I : jx_I} {a0 : Nat} {a1 : Int} {a2 : Int} {a3 : Int} {ld : Nat} {l : LT} {c : CT} 
    (h : GX X R I a0 ld l c) (r_a1 : -2147483648 ≤ a1 ∧ a1 < 2147483648) (r_a2 : -2147483648 ≤ a2 ∧ a2 < 2147483648) (r_a3 : -2147483648 ≤ a3 ∧ a3 < 2147483648)
    : jc V 9 144 (3, 18) [.ref a0, jy a1, jy a2, jy a3] X I R (fun rv I' => nz ((0 ≤ a1 ∧ a1 < (Ln l : Nat))) 0 (nz ((0 ≤ a2 ∧ a2 < (Lm l : Nat))) 1 (nz (1 ≤ a3 ∧ a3 ≤ 20) 2 (none))) = none ∧ rv = some (jy (min 20 (Cg c a1.toNat a2.toNat + a3))) ∧ SX I' (a0 + 4) ((gu (Cg c) a1.toNat a2.toNat (min 20 (Cg c a1.toNat a2.toNat + a3)), gu (Cd c) a1.toNat a2.toNat (min 20 (Cd c a1.toNat a2.toNat + a3))), c.2) ∧ FG a0 I I') (fun E I' => ∃ k, nz ((0 ≤ a1 ∧ a1 < (Ln l : Nat))) 0 (nz ((0 ≤ a2 ∧ a2 < (Lm l : Nat))) 1 (nz (1 ≤ a3 ∧ a3 ≤ 20) 2 (none))) = some k ∧ E = (jx_exe k).1 ∧ I' = rfs I a0 k) := by
  have hW := h.2.2.2.1
  have hW0 := hW.1
  refine wm_144 hV (by omega) (by omega) (by omega)  (fun J27 hJJ => ?_)
  have hJ27 := hJJ
  have hl := GX_l h
  have hD := h.2.2.1; have hS := h.2.2.2.2.1; have hC := h.2.2.2.2.2.1; have hlo := h.2.1.2
  unfold wz_144
  refine ⟨s_GC_0 h.1, ?_⟩
  refine ⟨_, _, cz_187 hV h (by omega), fun Ex Ix h9 => ⟨0, by rw [nz_f h9.2.2], h9.1, h9.2.1⟩, ?_⟩
  rintro _ I6 ⟨rfl, e9, hp1⟩; replace e9 := e9.symm; subst e9
  refine ⟨rfl, ?_⟩
  refine ⟨_, _, cz_188 hV h (by omega), fun Ex Ix h9 => ⟨1, by rw [nz_t hp1]; rw [nz_f h9.2.2], h9.1, h9.2.1⟩, ?_⟩
  rintro _ I12 ⟨rfl, e9, hp2⟩; replace e9 := e9.symm; subst e9
  refine ⟨rfl, ?_⟩
  refine ⟨fun hq1 => ?_, fun hq1 => ?_⟩
  · refine hJ27 _ _ _ ?_
    unfold wz_144_27
    refine ⟨s_GC_0 h.1, ?_⟩
    refine ⟨_, _, cz_189 hV h.1 (by omega), fun Ex Ix h9 => ⟨2, by rw [nz_t hp1, nz_t hp2, nz_f (by omega)], h9.1, h9.2.1⟩, ?_⟩
    rintro _ I19 ⟨rfl, e9, hp⟩; replace e9 := e9.symm; subst e9
    exact absurd rfl hp
  · refine ⟨fun hq2 => ?_, fun hq2 => ?_⟩
    · refine hJ27 _ _ _ ?_
      unfold wz_144_27
      refine ⟨s_GC_0 h.1, ?_⟩
      refine ⟨_, _, cz_189 hV h.1 (by omega), fun Ex Ix h9 => ⟨2, by rw [nz_t hp1, nz_t hp2, nz_f (by omega)], h9.1, h9.2.1⟩, ?_⟩
      rintro _ I19 ⟨rfl, e9, hp⟩; replace e9 := e9.symm; subst e9
      exact absurd rfl hp
    · refine hJ27 _ _ _ ?_
      unfold wz_144_27
      refine ⟨s_GC_0 h.1, ?_⟩
      refine ⟨_, _, cz_189 hV h.1 (by omega), fun Ex Ix h9 => absurd h9.2.2 (by decide), ?_⟩
      rintro _ I19 ⟨rfl, e9, hp⟩; replace e9 := e9.symm; subst e9
      refine ⟨rfl, ?_⟩
      refine ⟨s_GC_0 h.1, _, r_GC_0_2 h.1, s_State_0 (b_GC_4 h.1), _, r_State_0_0 (b_GC_4 h.1), s_Herd_0 (b_GC_5 h.1), ?_⟩
      refine ⟨_, cz_13 (p := a1.toNat) (c := a2.toNat) hV (b_GC_5 h.1) hS.1 hC.1 (by omega) (by omega) (by omega) (by omega) (by omega), ?_⟩
      rintro _ I30 ⟨rfl, hH1, hF1⟩
      refine ⟨rfl, ?_⟩
      refine ⟨_, cz_11 (p := a1.toNat) (c := a2.toNat) hV (b_GC_5 h.1) hH1 (by omega) (by omega) (by omega) (by omega), ?_⟩
      rintro _ I34 ⟨rfl, e9⟩; replace e9 := e9.symm; subst e9
      refine ⟨_, rfl, ?_⟩
      exact ⟨by rw [nz_t hp1, nz_t hp2, nz_t (by omega)], by rw [gu_s], SX_hd hS hF1 hH1, FG_fr (FG_s FS_refl) hF1 (by omega)⟩
/-- GrievingCamels.soothe -/
theorem cz_145 {V : jx_V} (hV : V.1.stackTraces = false) {X : jx_X} {R : jx_R} {I : jx_I} {a0 : Nat} {a1 : Int} {a2 : Int} {ld : Nat} {l : LT} {c : CT} 
    (h : GX X R I a0 ld l c) (r_a1 : -2147483648 ≤ a1 ∧ a1 < 2147483648) (r_a2 : -2147483648 ≤ a2 ∧ a2 < 2147483648)
    : jc V 9 145 (2, 12) [.ref a0, jy a1, jy a2] X I R (fun rv I' => nz ((0 ≤ a1 ∧ a1 < (Ln l : Nat))) 0 (nz ((0 ≤ a2 ∧ a2 < (Lm l : Nat))) 1 (none)) = none ∧ rv = some (jy (Cg c a1.toNat a2.toNat)) ∧ SX I' (a0 + 4) ((gu (Cg c) a1.toNat a2.toNat 0, Cd c), c.2) ∧ FG a0 I I') (fun E I' => ∃ k, nz ((0 ≤ a1 ∧ a1 < (Ln l : Nat))) 0 (nz ((0 ≤ a2 ∧ a2 < (Lm l : Nat))) 1 (none)) = some k ∧ E = (jx_exe k).1 ∧ I' = rfs I a0 k) := by
  have hW := h.2.2.2.1
  have hW0 := hW.1
  refine wm_145 hV (by omega) (by omega)  ?_
  have hl := GX_l h
  have hD := h.2.2.1; have hS := h.2.2.2.2.1; have hC := h.2.2.2.2.2.1; have hlo := h.2.1.2
  unfold wz_145
  refine ⟨s_GC_0 h.1, ?_⟩
  refine ⟨_, _, cz_187 hV h (by omega), fun Ex Ix h9 => ⟨0, by rw [nz_f h9.2.2], h9.1, h9.2.1⟩, ?_⟩
  rintro _ I6 ⟨rfl, e9, hp1⟩; replace e9 := e9.symm; subst e9
  refine ⟨rfl, ?_⟩
  refine ⟨_, _, cz_188 hV h (by omega), fun Ex Ix h9 => ⟨1, by rw [nz_t hp1]; rw [nz_f h9.2.2], h9.1, h9.2.1⟩, ?_⟩
  rintro _ I12 ⟨rfl, e9, hp2⟩; replace e9 := e9.symm; subst e9
  refine ⟨rfl, ?_⟩
  refine ⟨_, r_GC_0_2 h.1, s_State_0 (b_GC_4 h.1), _, r_State_0_0 (b_GC_4 h.1), s_Herd_0 (b_GC_5 h.1), ?_⟩
  refine ⟨_, cz_11 (p := a1.toNat) (c := a2.toNat) hV (b_GC_5 h.1) hS.1 (by omega) (by omega) (by omega) (by omega), ?_⟩
  rintro _ I22 ⟨rfl, e9⟩; replace e9 := e9.symm; subst e9
  refine ⟨_, rfl, ?_⟩
  refine ⟨_, cz_14 (p := a1.toNat) (c := a2.toNat) hV (b_GC_5 h.1) hS.1 (by omega) (by omega) (by omega) (by omega), ?_⟩
  rintro _ I26 ⟨rfl, hH1, hF1⟩
  refine ⟨rfl, ?_⟩
  exact ⟨by rw [nz_t hp1, nz_t hp2], rfl, SX_hd hS (FR_mono hF1 (by omega) (by omega)) hH1, FG_fr (FG_s FS_refl) hF1 (by omega)⟩
/-- GrievingCamelsModel.halt -/
theorem cz_248 {V : jx_V} (hV : V.1.stackTraces = false) {X : jx_X} {R : jx_R} {I : jx_I} {a0 : Nat} {a1 : Int} {l : LT} {c : CT} 
    (hM : MX X R a0) (hX : MSX I a0 l c) (hW : WT l) (hC : WC l c) (r_a1 : -2147483648 ≤ a1 ∧ a1 < 2147483648)
    {QE : String → jx_I → Prop} : jc V 4 248 (0, 0) [.ref a0, jy a1] X I R (fun rv I' => (nzw (0 ≤ a1 ∧ a1 < (Ln l : Nat)) 0 1 (none) = none ∧ rv = some (jy (hlt (Lc l) ((CL c).map (Cg c a1.toNat)) (nd (Lk l a1.toNat)))) ∧ (I' a0 0).toInt = 0 ∧ FK a0 SCR I I') ∨ (∃ k w, nzw (0 ≤ a1 ∧ a1 < (Ln l : Nat)) 0 1 (none) = some (k, w) ∧ I' = RM (jx_u I a0 0 (Int32.ofInt 0)) a0 k w ∧ ∃ x : Int, rv = some (jy x))) QE := by
  have hW0 := hW.1
  have hW0 := hW.1
  refine wm_248 hV (by omega)  (fun J19 hJJ => ?_)
  have hJ19 := hJJ
  unfold wz_248
  refine ⟨s_M_0 hM, ?_⟩
  intro I2 e_I2; subst e_I2
  have hX0 := MSX_0 (v := Int32.ofInt 0) hX hW
  have h00 : (jx_u I a0 0 (Int32.ofInt 0) a0 0).toInt = 0 := by rw [jx_u_s]; rfl
  refine ⟨_, cz_232 hV hM hX0.1 hW (by omega), ?_⟩
  rintro _ I5 ⟨rfl, e9⟩; replace e9 := e9.symm; subst e9
  refine ⟨_, rfl, ?_⟩
  refine ⟨by omega, ?_⟩
  refine ⟨fun hq1 => ?_, fun hq1 => ?_⟩
  · have c1 := bi_t hq1
    refine hJ19 _ _ _ ?_
    unfold wz_248_19
    refine ⟨s_M_0 hM, ?_⟩
    refine ⟨_, cz_202o hV hM h00 (by omega) (by omega), ?_⟩
    rintro _ I11 ⟨rfl, e9⟩; replace e9 := e9.symm; subst e9
    refine ⟨_, rfl, ?_⟩
    refine ⟨by omega, ?_⟩
    refine ⟨fun hq2 => ?_, fun hq2 => ?_⟩
    · refine ⟨s_M_0 hM, ?_⟩
      refine ⟨_, cz_243 hV hM hX0.1 hW hX0.2.1 (GDn_w hW hC) hC.2.1.2 (WC_8 hW hC), ?_⟩
      rintro _ I17 ⟨rfl, hN1, hF1⟩
      refine ⟨rfl, ?_⟩
      refine ⟨_, cz_246 (p := a1.toNat) hV hM (FK_MD hX0.1 hF1 (by decide) hW) hW hN1 (GDn_w hW hC) hC.2.1.2 (WC_8 hW hC) (by omega) (by omega), ?_⟩
      rintro _ I21 ⟨rfl, hF2⟩
      refine ⟨_, rfl, ?_⟩
      exact Or.inl ⟨nzw_t c1, rfl, by rw [hF2 a0 (by omega), hF1.2 0 (by decide)]; exact h00, FK_trans FK_0 (FK_trans (FK_mono hF1 (by decide)) (FK_fr hF2 (by omega)))⟩
    · exact absurd hq2 (by decide)
  · have c1 := bi_f hq1
    refine hJ19 _ _ _ ?_
    unfold wz_248_19
    refine ⟨s_M_0 hM, ?_⟩
    refine ⟨_, cz_202b hV hM h00 (by omega) (by omega), ?_⟩
    rintro _ I11 ⟨rfl, e9⟩; replace e9 := e9.symm; subst e9
    refine ⟨_, rfl, ?_⟩
    refine ⟨by omega, ?_⟩
    refine ⟨fun hq3 => ?_, fun hq3 => ?_⟩
    · exact absurd hq3 (by decide)
    · exact Or.inr ⟨_, _, by exact nzw_f c1, rfl, _, rfl⟩
/-- GrievingCamelsModel.value -/
theorem cz_249 {V : jx_V} (hV : V.1.stackTraces = false) {X : jx_X} {R : jx_R} {I : jx_I} {a0 : Nat} {a1 : Int} {a2 : Int} {l : LT} {c : CT} 
    (hM : MX X R a0) (hX : MSX I a0 l c) (hW : WT l) (hC : WC l c) (r_a1 : -2147483648 ≤ a1 ∧ a1 < 2147483648) (r_a2 : -2147483648 ≤ a2 ∧ a2 < 2147483648)
    {QE : String → jx_I → Prop} : jc V 3 249 (0, 0) [.ref a0, jy a1, jy a2] X I R (fun rv I' => (nzw (0 ≤ a1 ∧ a1 < (Ln l : Nat)) 0 1 (nzw (0 ≤ a2 ∧ a2 ≤ 4) 2 2 (none)) = none ∧ rv = some (jy (vl ((CL c).map (Cg c a1.toNat)) a2.toNat)) ∧ (I' a0 0).toInt = 0 ∧ FK a0 SCR I I') ∨ (∃ k w, nzw (0 ≤ a1 ∧ a1 < (Ln l : Nat)) 0 1 (nzw (0 ≤ a2 ∧ a2 ≤ 4) 2 2 (none)) = some (k, w) ∧ I' = RM (jx_u I a0 0 (Int32.ofInt 0)) a0 k w ∧ ∃ x : Int, rv = some (jy x))) QE := by
  have hW0 := hW.1
  have hW0 := hW.1
  refine wm_249 hV (by omega) (by omega)  (fun J19 J42 hJJ => ?_)
  obtain ⟨hJ19, hJ42⟩ := hJJ
  unfold wz_249
  refine ⟨s_M_0 hM, ?_⟩
  intro I2 e_I2; subst e_I2
  have hX0 := MSX_0 (v := Int32.ofInt 0) hX hW
  have h00 : (jx_u I a0 0 (Int32.ofInt 0) a0 0).toInt = 0 := by rw [jx_u_s]; rfl
  refine ⟨_, cz_232 hV hM hX0.1 hW (by omega), ?_⟩
  rintro _ I5 ⟨rfl, e9⟩; replace e9 := e9.symm; subst e9
  refine ⟨_, rfl, ?_⟩
  refine ⟨by omega, ?_⟩
  refine ⟨fun hq1 => ?_, fun hq1 => ?_⟩
  · have c1 := bi_t hq1
    refine hJ19 _ _ _ ?_
    unfold wz_249_19
    refine ⟨s_M_0 hM, ?_⟩
    refine ⟨_, cz_202o hV hM h00 (by omega) (by omega), ?_⟩
    rintro _ I11 ⟨rfl, e9⟩; replace e9 := e9.symm; subst e9
    refine ⟨_, rfl, ?_⟩
    refine ⟨by omega, ?_⟩
    refine ⟨fun hq2 => ?_, fun hq2 => ?_⟩
    · exact absurd hq2 (by decide)
    · refine ⟨_, cz_203 hV (by omega) (by omega) (by omega), ?_⟩
      rintro _ I16 ⟨rfl, e9⟩; replace e9 := e9.symm; subst e9
      refine ⟨_, rfl, ?_⟩
      refine ⟨by omega, ?_⟩
      refine ⟨fun hq3 => ?_, fun hq3 => ?_⟩
      · have c2 := bi_t hq3
        refine hJ42 _ _ _ ?_
        unfold wz_249_42
        refine ⟨s_M_0 hM, ?_⟩
        refine ⟨_, cz_202o hV hM h00 (by omega) (by omega), ?_⟩
        rintro _ I22 ⟨rfl, e9⟩; replace e9 := e9.symm; subst e9
        refine ⟨_, rfl, ?_⟩
        refine ⟨by omega, ?_⟩
        refine ⟨fun hq4 => ?_, fun hq4 => ?_⟩
        · refine ⟨s_M_0 hM, ?_⟩
          refine ⟨_, cz_243 hV hM hX0.1 hW hX0.2.1 (GDn_w hW hC) hC.2.1.2 (WC_8 hW hC), ?_⟩
          rintro _ I28 ⟨rfl, hN1, hF1⟩
          refine ⟨rfl, ?_⟩
          refine ⟨_, cz_245 (p := a1.toNat) (k := a2.toNat) hV hM (FK_MD hX0.1 hF1 (by decide) hW) hW hN1 (GDn_w hW hC) hC.2.1.2 (WC_8 hW hC) (by omega) (by omega) (by omega) (by omega), ?_⟩
          rintro _ I32 ⟨rfl, e9⟩; replace e9 := e9.symm; subst e9
          refine ⟨_, rfl, ?_⟩
          exact Or.inl ⟨by rw [nzw_t c1, nzw_t c2], rfl, by rw [hF1.2 0 (by decide)]; exact h00, FK_trans FK_0 (FK_mono hF1 (by decide))⟩
        · exact absurd hq4 (by decide)
      · have c2 := bi_f hq3
        refine hJ42 _ _ _ ?_
        unfold wz_249_42
        refine ⟨s_M_0 hM, ?_⟩
        refine ⟨_, cz_202b hV hM h00 (by omega) (by omega), ?_⟩
        rintro _ I22 ⟨rfl, e9⟩; replace e9 := e9.symm; subst e9
        refine ⟨_, rfl, ?_⟩
        refine ⟨by omega, ?_⟩
        refine ⟨fun hq5 => ?_, fun hq5 => ?_⟩
        · exact absurd hq5 (by decide)
        · exact Or.inr ⟨_, _, by rw [nzw_t c1]; exact nzw_f c2, rfl, _, rfl⟩
  · have c1 := bi_f hq1
    refine hJ19 _ _ _ ?_
    unfold wz_249_19
    refine ⟨s_M_0 hM, ?_⟩
    refine ⟨_, cz_202b hV hM h00 (by omega) (by omega), ?_⟩
    rintro _ I11 ⟨rfl, e9⟩; replace e9 := e9.symm; subst e9
    refine ⟨_, rfl, ?_⟩
    refine ⟨by omega, ?_⟩
    refine ⟨fun hq6 => ?_, fun hq6 => ?_⟩
    · exact Or.inr ⟨_, _, by exact nzw_f c1, rfl, _, rfl⟩
    · exact absurd hq6 (by decide)
/-- GrievingCamelsModel.would -/
theorem cz_251 {V : jx_V} (hV : V.1.stackTraces = false) {X : jx_X} {R : jx_R} {I : jx_I} {a0 : Nat} {a1 : Int} {a2 : Int} {l : LT} {c : CT} 
    (hM : MX X R a0) (hX : MSX I a0 l c) (hW : WT l) (hC : WC l c) (r_a1 : -2147483648 ≤ a1 ∧ a1 < 2147483648) (r_a2 : -2147483648 ≤ a2 ∧ a2 < 2147483648)
    {QE : String → jx_I → Prop} : jc V 4 251 (0, 0) [.ref a0, jy a1, jy a2] X I R (fun rv I' => (nzw (0 ≤ a1 ∧ a1 < (Ln l : Nat)) 0 1 (nzw (0 ≤ a2 ∧ a2 < ((2 ^ Lm l : Nat) : Int)) 2 2 (none)) = none ∧ rv = some (jy (hlt (Lc l) ((bl a2.toNat (Lm l)).map (Cg c a1.toNat)) (nd (Lk l a1.toNat)))) ∧ (I' a0 0).toInt = 0 ∧ FK a0 SCR I I') ∨ (∃ k w, nzw (0 ≤ a1 ∧ a1 < (Ln l : Nat)) 0 1 (nzw (0 ≤ a2 ∧ a2 < ((2 ^ Lm l : Nat) : Int)) 2 2 (none)) = some (k, w) ∧ I' = RM (jx_u I a0 0 (Int32.ofInt 0)) a0 k w ∧ ∃ x : Int, rv = some (jy x))) QE := by
  have hW0 := hW.1
  have hW0 := hW.1
  refine wm_251 hV (by omega) (by omega)  (fun J19 J41 hJJ => ?_)
  obtain ⟨hJ19, hJ41⟩ := hJJ
  unfold wz_251
  refine ⟨s_M_0 hM, ?_⟩
  intro I2 e_I2; subst e_I2
  have hX0 := MSX_0 (v := Int32.ofInt 0) hX hW
  have h00 : (jx_u I a0 0 (Int32.ofInt 0) a0 0).toInt = 0 := by rw [jx_u_s]; rfl
  refine ⟨_, cz_232 hV hM hX0.1 hW (by omega), ?_⟩
  rintro _ I5 ⟨rfl, e9⟩; replace e9 := e9.symm; subst e9
  refine ⟨_, rfl, ?_⟩
  refine ⟨by omega, ?_⟩
  refine ⟨fun hq1 => ?_, fun hq1 => ?_⟩
  · have c1 := bi_t hq1
    refine hJ19 _ _ _ ?_
    unfold wz_251_19
    refine ⟨s_M_0 hM, ?_⟩
    refine ⟨_, cz_202o hV hM h00 (by omega) (by omega), ?_⟩
    rintro _ I11 ⟨rfl, e9⟩; replace e9 := e9.symm; subst e9
    refine ⟨_, rfl, ?_⟩
    refine ⟨by omega, ?_⟩
    refine ⟨fun hq2 => ?_, fun hq2 => ?_⟩
    · exact absurd hq2 (by decide)
    · refine ⟨s_M_0 hM, ?_⟩
      refine ⟨_, cz_250 hV hM hX0.1 hW (by omega), ?_⟩
      rintro _ I17 ⟨rfl, e9⟩; replace e9 := e9.symm; subst e9
      refine ⟨_, rfl, ?_⟩
      refine ⟨by omega, ?_⟩
      refine ⟨fun hq3 => ?_, fun hq3 => ?_⟩
      · have c2 := bi_t hq3
        refine hJ41 _ _ _ ?_
        unfold wz_251_41
        refine ⟨s_M_0 hM, ?_⟩
        refine ⟨_, cz_202o hV hM h00 (by omega) (by omega), ?_⟩
        rintro _ I23 ⟨rfl, e9⟩; replace e9 := e9.symm; subst e9
        refine ⟨_, rfl, ?_⟩
        refine ⟨by omega, ?_⟩
        refine ⟨fun hq4 => ?_, fun hq4 => ?_⟩
        · refine ⟨s_M_0 hM, ?_⟩
          refine ⟨_, cz_243 hV hM hX0.1 hW hX0.2.1 (GDn_w hW hC) hC.2.1.2 (WC_8 hW hC), ?_⟩
          rintro _ I29 ⟨rfl, hN1, hF1⟩
          refine ⟨rfl, ?_⟩
          refine ⟨_, cz_244 (B := a2.toNat) hV hM (FK_MD hX0.1 hF1 (by decide) hW) hW hN1 (by omega) (by omega), ?_⟩
          rintro _ I33 ⟨rfl, hN3, hF3⟩
          refine ⟨rfl, ?_⟩
          refine ⟨_, cz_246 (p := a1.toNat) hV hM (FK_MD hX0.1 (FK_trans hF1 hF3) (by decide) hW) hW hN3 (GDn_w hW hC) (fun x hx => (bl_mem.mp hx).1) (by have := bl_len a2.toNat (Lm l); have := hW.1; omega) (by omega) (by omega), ?_⟩
          rintro _ I37 ⟨rfl, hF2⟩
          refine ⟨_, rfl, ?_⟩
          exact Or.inl ⟨by rw [nzw_t c1, nzw_t c2], rfl, by rw [hF2 a0 (by omega), hF3.2 0 (by decide), hF1.2 0 (by decide)]; exact h00, FK_trans FK_0 (FK_trans (FK_mono (FK_trans hF1 hF3) (by decide)) (FK_fr hF2 (by omega)))⟩
        · exact absurd hq4 (by decide)
      · have c2 := bi_f hq3
        refine hJ41 _ _ _ ?_
        unfold wz_251_41
        refine ⟨s_M_0 hM, ?_⟩
        refine ⟨_, cz_202b hV hM h00 (by omega) (by omega), ?_⟩
        rintro _ I23 ⟨rfl, e9⟩; replace e9 := e9.symm; subst e9
        refine ⟨_, rfl, ?_⟩
        refine ⟨by omega, ?_⟩
        refine ⟨fun hq5 => ?_, fun hq5 => ?_⟩
        · exact absurd hq5 (by decide)
        · exact Or.inr ⟨_, _, by rw [nzw_t c1]; exact nzw_f c2, rfl, _, rfl⟩
  · have c1 := bi_f hq1
    refine hJ19 _ _ _ ?_
    unfold wz_251_19
    refine ⟨s_M_0 hM, ?_⟩
    refine ⟨_, cz_202b hV hM h00 (by omega) (by omega), ?_⟩
    rintro _ I11 ⟨rfl, e9⟩; replace e9 := e9.symm; subst e9
    refine ⟨_, rfl, ?_⟩
    refine ⟨by omega, ?_⟩
    refine ⟨fun hq6 => ?_, fun hq6 => ?_⟩
    · exact Or.inr ⟨_, _, by exact nzw_f c1, rfl, _, rfl⟩
    · exact absurd hq6 (by decide)
