/-! ===== what the constructors leave ===== -/
abbrev xres : Type := Nat × List (Nat × Int) × List (Option (Nat × Int)) × List xe × Nat × Nat
def xlg (x : Option xres) : List xe := match x with
  | some r => r.2.2.2.1
  | none => []
def xchk (x : Option xres) (pc : Nat) (st : List (Nat × Int)) (L : List (Option (Nat × Int))) (n k : Nat) : Bool := match x with
  | some r => Nat.beq r.1 pc && (decide (r.2.1 = st) && (decide (r.2.2.1 = L) && (Nat.beq r.2.2.2.2.1 n && Nat.beq r.2.2.2.2.2 k)))
  | none => false
theorem xchk_ok {x : Option xres} {pc : Nat} {st : List (Nat × Int)} {L : List (Option (Nat × Int))} {n k : Nat} (h : xchk x pc st L n k = true) : x = some (pc, st, L, xlg x, n, k) := by
  cases x with
  | none => cases h
  | some r =>
    obtain ⟨a, b, c, d, e, f⟩ := r
    simp only [xchk, Bool.and_eq_true] at h
    obtain ⟨h1, h2, h3, h4, h5⟩ := h
    have e1 : a = pc := Nat.eq_of_beq_eq_true h1
    have e2 : b = st := of_decide_eq_true h2
    have e3 : c = L := of_decide_eq_true h3
    have e4 : e = n := Nat.eq_of_beq_eq_true h4
    have e5 : f = k := Nat.eq_of_beq_eq_true h5
    subst e1
    subst e2
    subst e3
    subst e4
    subst e5
    rfl
def xk1 : Option xres := xrun 3000 4 jx_c134 0 [] [some (1, 0), none] [(0, 0, 11, 0, 0)] 1 16
def lg1 : List xe := xlg xk1
theorem xk1_ck : xchk xk1 209 [] [some (1, 0), some (0, 3)] 147 32639 = true := by decide +kernel
theorem xk1_ok : xk1 = some (209, [], [some (1, 0), some (0, 3)], lg1, 147, 32639) := xchk_ok xk1_ck
def xk2 : Option xres := xrun 3000 4 jx_c199 0 [] [some (1, 0)] [(0, 0, 12, 0, 0)] 1 71
def lg2 : List xe := xlg xk2
theorem xk2_ck : xchk xk2 398 [(1, 0)] [some (1, 0)] 2177 35999 = true := by decide +kernel
theorem xk2_ok : xk2 = some (398, [(1, 0)], [some (1, 0)], lg2, 2177, 35999) := xchk_ok xk2_ck
/-- zeros wherever one looks in a row -/
def xlZ : List xe → Nat → Bool
  | [], _ => false
  | e :: l, a => if e.1 = 0 ∨ e.1 = 5 then (if a = e.2.1 then true else xlZ l a) else if e.1 = 1 then (if e.2.1 ≤ a then true else xlZ l a) else if e.1 = 4 then (if a = e.2.1 then false else xlZ l a) else xlZ l a
theorem xlZ_ok {b : Nat} {I : jx_I} : ∀ (l : List xe) {a : Nat}, xlZ l a = true → ∀ j, xeI b I l (b + a) j = 0
  | [], _, h, _ => by cases h
  | e :: l, a, h, j => by
    unfold xlZ at h
    unfold xeI
    split at h
    · next h1 =>
      rw [if_pos h1]
      unfold jx_z
      split at h
      · next h2 => rw [if_pos (by omega)]
      · next h2 => rw [if_neg (by omega)]; exact xlZ_ok l h j
    · next h1 =>
      rw [if_neg h1]
      split at h
      · next h3 =>
        rw [if_pos h3]
        unfold jx_zs
        split at h
        · next h2 => rw [if_pos (by omega)]
        · next h2 => rw [if_neg (by omega)]; exact xlZ_ok l h j
      · next h3 =>
        rw [if_neg h3]
        split at h
        · next h4 =>
          rw [if_pos h4]
          unfold jx_u
          split at h
          · cases h
          · next h2 => rw [if_neg (by omega)]; exact xlZ_ok l h j
        · next h4 => rw [if_neg h4]; exact xlZ_ok l h j
/-- the state at the start -/
def yz0 : YZ := ((L00.1, CT0 L00), ([], -1, ([], [], [])), [], fun _ => 0)
theorem ZG_0 : ZG yz0 := ⟨WB_WT WB_0, WC_0 WB_0, WP_0, Nat.zero_le _, Nat.zero_le _, fun e he => (by cases he)⟩
def lg1_T_p (lg : List xe) : Prop := (List.range 147).all (fun k => match TGC[k]? with
  | some e => decide (xlS lg k = some e.1) && e.2.all (fun p => decide (xlR lg k p.1 = some (some p.2)))
  | none => false) = true
theorem lg1_T : lg1_T_p lg1 := by
  unfold lg1_T_p
  decide +kernel
def lg1_R_p (lg : List xe) : Prop := xlR lg 0 11 = some (some 36) ∧ xlR lg 0 12 = some (some 47) ∧ xlR lg 0 13 = some (some 58) ∧ xlR lg 0 14 = some (some 70)
theorem lg1_R : lg1_R_p lg1 := by
  unfold lg1_R_p
  decide +kernel
def lg1_I_p (lg : List xe) : Prop := xlI lg 36 7 = some 0 ∧ xlI lg 36 8 = some 0 ∧ xlI lg 9 1 = some 0 ∧ xlI lg 11 1 = some 0 ∧ xlI lg 4 6 = some 0 ∧ xlI lg 4 7 = some 0 ∧ xlI lg 1 1 = some 0 ∧ xlI lg 1 8 = some (-1) ∧ xlI lg 89 6 = some 1 ∧ xlI lg 0 15 = some 0 ∧ xlI lg 58 11 = some 0
theorem lg1_I : lg1_I_p lg1 := by
  unfold lg1_I_p
  decide +kernel
def lg1_Z_p (lg : List xe) : Prop := xlZ lg 6 = true ∧ xlZ lg 7 = true ∧ xlZ lg 23 = true ∧ xlZ lg 92 = true ∧ xlZ lg 3 = true
theorem lg1_Z : lg1_Z_p lg1 := by
  unfold lg1_Z_p
  decide +kernel
section XC
variable {a : Nat} {S : Nat → Option (Nat × Nat)} {G : Nat → Nat → Int64} {I : jx_I} {R : jx_R}
theorem BX_1 {lg : List xe} (hT : lg1_T_p lg) : BX (xX a S G lg 147) (xeR a R lg) a TGC := by
  intro k e hk
  have hk2 : k < 147 := gi_lt hk
  have h := List.all_eq_true.mp hT k (List.mem_range.mpr hk2)
  rw [hk] at h
  simp only [Bool.and_eq_true] at h
  exact ⟨xlS_ok lg (of_decide_eq_true h.1), fun p hp => xlR_ok lg (of_decide_eq_true (List.all_eq_true.mp h.2 p hp))⟩
theorem xi_ {l : List xe} {q j : Nat} {v : Int} (h : xlI l q j = some v) (hv : -2147483648 ≤ v ∧ v < 2147483648) : (xeI a I l (a + q) j).toInt = v := by
  rw [xlI_ok l h]
  exact jy_toInt hv
theorem xz_ {l : List xe} {q : Nat} (h : xlZ l q = true) (j : Nat) : (xeI a I l (a + q) j).toInt = 0 := by
  rw [xlZ_ok l h j]
  rfl
theorem CI_L {lg : List xe} (hT : lg1_T_p lg) (hR : lg1_R_p lg) (hI : lg1_I_p lg) (hZ : lg1_Z_p lg) : CI (xX a S G lg 147) (xeR a R lg) (xeI a I lg) a yz0 := by
  obtain ⟨r1, r2, r3, r4⟩ := hR
  obtain ⟨i1, i2, i3, i4, i5, i6, i7, i8, i9, i10, i11⟩ := hI
  obtain ⟨z1, z2, z3, z4, z5⟩ := hZ
  have hL : LD (xeI a I lg) (a + 36) L00.1 := ⟨⟨xi_ i1 (by decide), xi_ i2 (by decide)⟩, fun p hp => absurd hp (Nat.not_lt_zero p), fun p q hp => absurd hp (Nat.not_lt_zero p), fun c hc => absurd hc (Nat.not_lt_zero c), fun h => absurd h (by decide)⟩
  have hS : SX (xeI a I lg) (a + 4) (CT0 L00) := ⟨fun p c hp hc => ⟨xz_ z1 _, xz_ z2 _⟩, ⟨xi_ i3 (by decide), Nat.zero_le _, fun k x hk => by cases hk⟩, ⟨xi_ i4 (by decide), Nat.zero_le _, fun k x hk => by cases hk⟩, ⟨xi_ i5 (by decide), Nat.zero_le _, fun k x hk => by cases hk⟩, ⟨xi_ i6 (by decide), Nat.zero_le _, fun k x hk => by cases hk⟩⟩
  refine ⟨a + 36, a + 47, a + 58, a + 70, ⟨BX_1 hT, ⟨xlR_ok lg r1, Or.inl rfl⟩, hL, WB_WT WB_0, hS, WC_0 WB_0, xlZ_ok lg z3 0⟩, ⟨xlR_ok lg r2, Or.inl ⟨rfl, rfl⟩⟩, ⟨xlR_ok lg r3, xlR_ok lg r4, Or.inl ⟨rfl, rfl⟩⟩, ⟨xlR_ok lg r3, Or.inl rfl, ⟨xi_ i11 (by decide), fun k e he => by cases he⟩, fun k e he => (by cases he), ⟨Nat.le_refl 0, fun h0 => absurd h0 (Nat.lt_irrefl 0)⟩⟩, ⟨xi_ i7 (by decide), Nat.zero_le _, fun k x hk => by cases hk⟩, xi_ i8 (by decide), ⟨fun h6 => ?_, ?_⟩, ⟨xi_ i10 (by decide), fun k e he => by cases he⟩, fun k _ => xz_ z5 k⟩
  · have h7 : (xeI a I lg (a + 89) 6).toInt = 1 := xi_ i9 (by decide)
    omega
  · exact ⟨fun j _ => by have h8 : (xeI a I lg (a + 89 + 3) j).toInt = 0 := xz_ z4 j; omega, xz_ z4 6, xz_ z4 7⟩
theorem CI_0 : CI (xX a S G lg1 147) (xeR a R lg1) (xeI a I lg1) a yz0 := CI_L lg1_T lg1_R lg1_I lg1_Z
/-- new GrievingCamels() -/
theorem cm_134g {V : jx_V} (hV : V.1.stackTraces = false) {lg : List xe} (hx : xrun 3000 4 jx_c134 0 [] [some (1, 0), none] [(0, 0, 11, 0, 0)] 1 16 = some (209, [], [some (1, 0), some (0, 3)], lg, 147, 32639)) : jx_Met V 5 134 (146, 32623) [.ref a] (a + 1, jx_up S a (11, 0), G) (jx_z I a) (jx_n R a) (fun rv X' I' R' => rv = none ∧ X' = xX a S G lg 147 ∧ I' = xeI a I lg ∧ R' = xeR a R lg) (fun _ _ _ _ => False) := by
  refine jy_met hV (by decide) (n := 2) (rt := none) (hh := []) (ini := true) (C := jx_c134) (L := xL a [some (1, 0), none]) (by decide +kernel) (Nat.le_of_ble_eq_true rfl) rfl ?_
  intro J hS
  have h := (xrun_ok hV (b := a) (S := S) (G := G) (I := I) (R := R) _ _ _ _ _ _ _ _ _ _ _ _ _ _ _ hx).2 5 none J _ _ hS (by decide) (146, 32623) (by decide) (by decide) (fun bb' _ _ => jy_ret hS rfl rfl ⟨rfl, rfl, rfl, rfl⟩)
  unfold xX at h
  rw [xeS_0, xeG_o (by decide), xeI_0, xeR_0] at h
  exact h
theorem cm_134 {V : jx_V} (hV : V.1.stackTraces = false) : jx_Met V 5 134 (146, 32623) [.ref a] (a + 1, jx_up S a (11, 0), G) (jx_z I a) (jx_n R a) (fun rv X' I' R' => rv = none ∧ X' = xX a S G lg1 147 ∧ I' = xeI a I lg1 ∧ R' = xeR a R lg1) (fun _ _ _ _ => False) := cm_134g hV xk1_ok
end XC
def lg2_0_p (lg : List xe) : Prop := xlS lg 0 = some (12, 0) ∧ MXr.all (fun e => decide (xlR lg 0 e.1 = some (some e.2))) = true ∧ MXa.all (fun e => decide (xlS lg e.1 = some (100, e.2))) = true ∧ MXg.all (fun e => decide (xlS lg e.1 = some (104, e.2.1)) && (List.range e.2.1).all (fun i => decide (xlR lg e.1 i = some (some (e.1 + 1 + i))) && decide (xlS lg (e.1 + 1 + i) = some (100, e.2.2)))) = true
theorem lg2_0 : lg2_0_p lg2 := by
  unfold lg2_0_p
  decide +kernel
def lg2_I_p (lg : List xe) : Prop := xlI lg 0 1 = some 0 ∧ xlI lg 0 3 = some (-1)
theorem lg2_I : lg2_I_p lg2 := by
  unfold lg2_I_p
  decide +kernel
def lg2_Z_p (lg : List xe) : Prop := xlZ lg 2 = true
theorem lg2_Z : lg2_Z_p lg2 := by
  unfold lg2_Z_p
  decide +kernel
theorem MX_fn {X X' : jx_X} {R : jx_R} {m : Nat} (h : MX X R m) (e : X'.2.1 = X.2.1) : MX X' R m := by
  unfold MX at h ⊢
  rw [e]
  exact h
section XD
variable {m : Nat} {S : Nat → Option (Nat × Nat)} {G : Nat → Nat → Int64} {I : jx_I} {R : jx_R}
theorem MX_1 {lg : List xe} (h20 : lg2_0_p lg) : MX (xX m S G lg 2177) (xeR m R lg) m := by
  obtain ⟨h0, h1, h2, h3⟩ := h20
  refine ⟨xlS_ok lg h0, fun e he => xlR_ok lg (of_decide_eq_true (List.all_eq_true.mp h1 e he)), fun e he => xlS_ok lg (of_decide_eq_true (List.all_eq_true.mp h2 e he)), fun e he => ?_⟩
  have h := List.all_eq_true.mp h3 e he
  simp only [Bool.and_eq_true] at h
  refine ⟨xlS_ok lg (of_decide_eq_true h.1), fun i hi => ?_⟩
  have h4 := List.all_eq_true.mp h.2 i (List.mem_range.mpr hi)
  simp only [Bool.and_eq_true] at h4
  have h5 : xeR m R lg (m + e.1) i = some (m + (e.1 + 1 + i)) := xlR_ok lg (of_decide_eq_true h4.1)
  have h6 : xeS m S lg (m + (e.1 + 1 + i)) = some (100, e.2.2) := xlS_ok lg (of_decide_eq_true h4.2)
  rw [show m + (e.1 + 1 + i) = m + (e.1 + 1) + i by omega] at h5 h6
  exact ⟨h5, h6⟩
/-- new GrievingCamelsModel() -/
theorem cm_199g {V : jx_V} (hV : V.1.stackTraces = false) {lg : List xe} (hx : xrun 3000 4 jx_c199 0 [] [some (1, 0)] [(0, 0, 12, 0, 0)] 1 71 = some (398, [(1, 0)], [some (1, 0)], lg, 2177, 35999)) (h20 : lg2_0_p lg) (h2I : lg2_I_p lg) (h2Z : lg2_Z_p lg) : jx_Met V 5 199 (2176, 35928) [.ref m] (m + 1, jx_up S m (12, 0), G) (jx_z I m) (jx_n R m) (fun rv X' I' R' => rv = none ∧ X' = xX m S G lg 2177 ∧ R' = xeR m R lg ∧ MI (xX m S G lg 2177) (xeR m R lg) I' m yz0 ∧ ∀ q, q < m → I' q = I q) (fun _ _ _ _ => False) := by
  refine jy_met hV (by decide) (n := 1) (rt := none) (hh := []) (ini := true) (C := jx_c199) (L := xL m [some (1, 0)]) (by decide +kernel) (Nat.le_of_ble_eq_true rfl) rfl ?_
  intro J hS
  have h := (xrun_ok hV (b := m) (S := S) (G := G) (I := I) (R := R) _ _ _ _ _ _ _ _ _ _ _ _ _ _ _ hx).2 5 none J _ _ hS (by decide) (2176, 35928) (by decide) (by decide) ?_
  · unfold xX at h
    rw [xeS_0, xeG_o (by decide), xeI_0, xeR_0] at h
    exact h
  · intro bb' hb1 hb2
    have hM := MX_1 h20 (m := m) (S := S) (G := G) (R := R)
    obtain ⟨i1, i2⟩ := h2I
    change J 398 [.ref m] [some (.ref m)] bb' _ _ _
    refine jy_callV hS rfl rfl rfl (Nat.le_of_ble_eq_true rfl) (Or.inl hM.1) (cz_200 hV hM (QE := fun _ _ => False)) (by decide) ⟨Nat.zero_le _, Nat.zero_le _⟩ (Nat.le_of_ble_eq_true rfl) ?_ (fun _ _ _ _ q => q.2.2.2.elim)
    rintro rv X1 I1 R1 ⟨e1, e2, rfl, hR1, hf1, hk1⟩
    rw [e1, e2]
    change J 401 [] [some (.ref m)] _ _ _ _
    refine jy_aload_n hS rfl rfl ?_
    refine jy_callV hS rfl rfl rfl (Nat.le_of_ble_eq_true rfl) (Or.inl hM.1) (cz_229 hV hM hR1 WB_0 (QE := fun _ _ => False)) (by decide) ⟨Nat.zero_le _, Nat.zero_le _⟩ (Nat.le_of_ble_eq_true rfl) ?_ (fun _ _ _ _ q => q.2.2.2.elim)
    rintro rv2 X2 I2 R2 ⟨e3, e4, rfl, hS2, h40, h56, hf2, hk2⟩
    rw [e3, e4]
    change J 405 [] [some (.ref m)] _ _ _ _
    refine jy_ret hS rfl rfl ⟨rfl, rfl, rfl, ?_, ?_⟩
    · have ek : ∀ k, k ≠ 24 → k ∉ KSD → I2 m k = xeI m I lg m k := fun k a b => (hk2 k b).trans (hk1 k a)
      have ea : I2 (m + 2) = xeI m I lg (m + 2) := (hf2 (m + 2) (by omega) (fun h1 => by unfold SDo at h1; omega)).trans (hf1.1 (m + 2) (by omega) (fun h1 => by unfold RDo at h1; omega))
      refine ⟨hM, hS2, ⟨h56, fun k e he => (by cases he), fun k e he => (by cases he), fun k e he => (by cases he)⟩, ⟨?_, fun k x hk => by cases hk⟩, ?_, ⟨h40, fun k e he => by cases he⟩, fun k _ => ?_⟩
      · rw [ek 1 (by decide) (by decide)]; exact xi_ (a := m) (q := 0) i1 (by decide)
      · rw [ek 3 (by decide) (by decide)]; exact xi_ (a := m) (q := 0) i2 (by decide)
      · rw [ea]; exact xz_ h2Z k
    · intro q hq
      rw [hf2 q (by omega) (fun h1 => by unfold SDo at h1; omega), hf1.1 q (by omega) (fun h1 => by unfold RDo at h1; omega), xeI_lt hq]
theorem cm_199 {V : jx_V} (hV : V.1.stackTraces = false) : jx_Met V 5 199 (2176, 35928) [.ref m] (m + 1, jx_up S m (12, 0), G) (jx_z I m) (jx_n R m) (fun rv X' I' R' => rv = none ∧ X' = xX m S G lg2 2177 ∧ R' = xeR m R lg2 ∧ MI (xX m S G lg2 2177) (xeR m R lg2) I' m yz0 ∧ ∀ q, q < m → I' q = I q) (fun _ _ _ _ => False) := cm_199g hV xk2_ok lg2_0 lg2_I lg2_Z
end XD
