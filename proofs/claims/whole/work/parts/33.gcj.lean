/-! ===== the class: journeys asked and gone ===== -/
theorem nz_none {P : Prop} [Decidable P] {k : Nat} {e : Option Nat} (h : P) (he : e = none) : nz P k e = none := by rw [nz_t h, he]
def hrs (l : LT) (J L : List Nat) (g d : GT) : Int := rs (Lr l) J (J.length - 1) + jhs l J L g d (J.length - 1)
/-- the hours of the kept journey by those of the row that the bits name -/
def hwb (l : LT) (c : CT) (B : Nat) : Int := hrs l (CJ c) ((CL c).filter (fun x => B.testBit x)) (Cg c) (Cd c)
/-- what the kept row leaves in the Trip -/
def TC (I : jx_I) (t : Nat) (l : LT) (c : CT) : Prop := TP I t l (CJ c) (CL c) (Cg c) (Cd c)
theorem WC_J {l : LT} {c : CT} (h : WC l c) (hj : CJ c ≠ []) : (2 ≤ (CJ c).length ∧ (CJ c).length ≤ 12) ∧ (∀ x ∈ CJ c, x < Ln l) ∧ RJ (Lr l) (CJ c) := by
  rcases h.2.2.1 with e | e
  · exact absurd e hj
  · exact e
theorem hrs_rng {l : LT} {J : List Nat} (hW : WT l) (hJ : ∀ x ∈ J, x < Ln l) (hJ12 : J.length ≤ 12) (L : List Nat) (g d : GT) : 0 ≤ hrs l J L g d ∧ hrs l J L g d ≤ 1500 := by
  unfold hrs
  have h1 := jhs_rng l J L g d (J.length - 1)
  by_cases h0 : J.length = 0
  · rw [show J.length - 1 = 0 by omega] at h1 ⊢
    simp [rs]
    omega
  · have h2 := rs_rng (r := Lr l) (J := J) (b := 24) (fun k hk => by
      have m1 : J.getD k 0 ∈ J := by rw [List.getD_eq_getElem?_getD, List.getElem?_eq_getElem (show k < J.length by omega)]; exact List.getElem_mem _
      have m2 : J.getD (k + 1) 0 ∈ J := by rw [List.getD_eq_getElem?_getD, List.getElem?_eq_getElem hk]; exact List.getElem_mem _
      exact (hW.2.2.1 _ _ (hJ _ m1) (hJ _ m2)).1) (J.length - 1) (by omega)
    omega
theorem FS_2 {b ld : Nat} {I I' I2 : jx_I} (h : FS b I I') (h2 : FR2 (b + 17) (b + 24) (ld + 9) (ld + 11) I' I2) (h0 : I2 (b + 17 + 6) 0 = I' (b + 17 + 6) 0) (ho : ld = b + 36 ∨ ld = b + 47) : FS b I I2 := ⟨fun q a1 b1 c1 d1 => (h2 q (by omega) (by omega)).trans (h.1 q a1 b1 c1 d1), h0.trans h.2⟩
/-- the first k from k0 + 1 on, of n, for which it is so; -1 -/
def ff (P : Nat → Bool) : Nat → Nat → Int
  | 0, _ => -1
  | n + 1, k => if P (k + 1) then ((k + 1 : Nat) : Int) else ff P n (k + 1)
/-- of a row the one with the most, of these the first -/
def mgr (g : Nat → Int) (L : List Nat) : Int × Int := L.foldl (fun s x => if s.1 < g x then (g x, (x : Int)) else s) (0, -1)
theorem mgr_app (g : Nat → Int) (L : List Nat) (x : Nat) : mgr g (L ++ [x]) = if (mgr g L).1 < g x then (g x, (x : Int)) else mgr g L := by unfold mgr; rw [List.foldl_append]; rfl
theorem mgr_rng (g : Nat → Int) (L : List Nat) (h : ∀ x ∈ L, g x ≤ 20) : 0 ≤ (mgr g L).1 ∧ (mgr g L).1 ≤ 20 := by
  unfold mgr
  have key : ∀ (L : List Nat) (s : Int × Int), (∀ x ∈ L, g x ≤ 20) → 0 ≤ s.1 ∧ s.1 ≤ 20 → 0 ≤ (L.foldl (fun s x => if s.1 < g x then (g x, (x : Int)) else s) s).1 ∧ (L.foldl (fun s x => if s.1 < g x then (g x, (x : Int)) else s) s).1 ≤ 20 := by
    intro L
    induction L with
    | nil => intro s _ h; exact h
    | cons a L ih =>
      intro s h1 h2
      have ha := h1 a (by simp)
      refine ih _ (fun x hx => h1 x (by simp [hx])) ?_
      show 0 ≤ (if s.1 < g a then (g a, (a : Int)) else s).1 ∧ (if s.1 < g a then (g a, (a : Int)) else s).1 ≤ 20
      split
      · show 0 ≤ g a ∧ g a ≤ 20; omega
      · exact h2
  exact key L _ h (by decide)
/-- GrievingCamels$Trip.mostGrieved -/
theorem cz_125 {V : jx_V} (hV : V.1.stackTraces = false) {X : jx_X} {R : jx_R} {I : jx_I} {a0 : Nat} {a1 : Nat} {a2 : Int} {L : List Nat} {i : Nat} {g : Nat → Int}
    (ht : BX X R a0 TTrip) (hr : BX X R a1 TRow) (hL : RW I a1 L) (hL8 : ∀ x ∈ L, x < 8) (h2 : a2 = (i : Int)) (hi : i < 12) (hg : GR I (a0 + 5) (i * 8) L g)
    {QE : String → jx_I → Prop} : jc V 1 125 (0, 0) [.ref a0, .ref a1, jy a2] X I R (fun rv I' => rv = some (jy (mgr g L).2) ∧ I' = I) QE := by
  refine wm_125 hV (by omega)  (fun J8 J54 hJJ => ?_)
  obtain ⟨hJ8, hJ54⟩ := hJJ
  have hm := hL.1; have hn12 := hL.2.1
  unfold wz_125
  have L8 : ∀ (n8 : Nat) (l3 : Int) (l4 : Int) (l5 : Int) (K : jx_I), n8 = ((L.length : Int) - l5).toNat → (∃ k : Nat, l5 = k ∧ k ≤ L.length ∧ l3 = (mgr g (L.take k)).1 ∧ l4 = (mgr g (L.take k)).2 ∧ K = I) → J8 l3 l4 l5 K := by
    intro n8
    induction n8 using Nat.strongRecOn with
    | ind n8 ih8 =>
    intro l3 l4 l5 K hn8 hI8
    obtain ⟨k, rfl, hk, rfl, rfl, rfl⟩ := hI8
    have hmr := mgr_rng g (L.take k) (fun x hx => (hg x (List.mem_of_mem_take hx)).2.2)
    refine hJ8 _ _ _ _ ?_
    unfold wz_125_8
    refine ⟨s_Row_0 hr, by omega, ?_⟩
    refine ⟨fun hq1 => ?_, fun hq1 => ?_⟩
    · rw [List.take_of_length_le (by omega)]
      exact ⟨rfl, rfl⟩
    · obtain ⟨y, hy, hy2⟩ := RW_get hL (i := k) (by omega)
      have hym := List.mem_of_getElem? hy
      have hy8 := hL8 y hym
      obtain ⟨g1, g2, g3⟩ := hg y hym
      have hgv : (K (a0 + 5) ((a2 * 8 + (y : Int)).toNat)).toInt = g y := by rw [show (a2 * 8 + (y : Int)).toNat = i * 8 + y by omega, g1]
      refine ⟨s_Trip_0 ht, _, r_Trip_0_1 ht, _, r_Row_0_0 hr, _, ⟨s_Row_1 hr, by decide⟩, ?_⟩
      try simp only [-eq_self, Int.toNat_natCast, hy2]
      refine ⟨by omega, _, ⟨s_Trip_5 ht, by decide⟩, ?_⟩
      try simp only [-eq_self, hgv]
      refine ⟨by omega, by omega, ?_⟩
      refine ⟨fun hq2 => ?_, fun hq2 => ?_⟩
      · exact ih8 _ (by omega) _ _ _ _ rfl (⟨k + 1, by omega, by omega, by rw [ls_last hy, mgr_app, if_neg (by omega)], by rw [ls_last hy, mgr_app, if_neg (by omega)], rfl⟩)
      · refine ⟨by omega, ?_⟩
        refine hJ54 _ _ _ _ ?_
        unfold wz_125_54
        exact ih8 _ (by omega) _ _ _ _ rfl (⟨k + 1, by omega, by omega, by rw [ls_last hy, mgr_app, if_pos (by omega)], by rw [ls_last hy, mgr_app, if_pos (by omega)], rfl⟩)
  exact L8 _ _ _ _ _ rfl (⟨0, rfl, by omega, by rw [List.take_zero]; rfl, by rw [List.take_zero]; rfl, rfl⟩)
/-- GrievingCamels.walkNow -/
theorem cz_194 {V : jx_V} (hV : V.1.stackTraces = false) {X : jx_X} {R : jx_R} {I : jx_I} {a0 : Nat} {ld : Nat} {l : LT} {c : CT} 
    (h : GX X R I a0 ld l c) (hj : CJ c ≠ [])
    {QE : String → jx_I → Prop} : jc V 6 194 (0, 0) [.ref a0] X I R (fun rv I' => rv = none ∧ TC I' (a0 + 17) l c ∧ FS a0 I I') QE := by
  have hW := h.2.2.2.1
  have hW0 := hW.1
  refine wm_194 hV   ?_
  have hl := GX_l h
  have hD := h.2.2.1; have hS := h.2.2.2.2.1; have hC := h.2.2.2.2.2.1; have hlo := h.2.1.2
  unfold wz_194
  refine ⟨s_GC_0 h.1, _, r_GC_0_4 h.1, _, h.2.1.1, _, r_GC_0_2 h.1, s_State_0 (b_GC_4 h.1), _, r_State_0_2 (b_GC_4 h.1), _, r_State_0_1 (b_GC_4 h.1), _, r_State_0_0 (b_GC_4 h.1), s_Trip_0 (b_GC_17 h.1), ?_⟩
  refine ⟨_, cz_121 hV (b_GC_17 h.1) hl (b_GC_11 h.1) (b_GC_9 h.1) hD hW hS.2.2.1 (WC_J hC hj).2.1 hS.2.1 hC.2.1.2 hC.2.1.1 hC.1 (by omega) (by omega) (by omega) (b_GC_5 h.1) (WC_J hC hj).2.2 hS.1 (by omega) (by omega), ?_⟩
  rintro _ I18 ⟨rfl, hT, h0, hF⟩
  refine ⟨rfl, ?_⟩
  exact ⟨rfl, hT, FS_2 FS_refl hF h0 hlo⟩
/-- GrievingCamels.hoursWith -/
theorem cz_195 {V : jx_V} (hV : V.1.stackTraces = false) {X : jx_X} {R : jx_R} {I : jx_I} {a0 : Nat} {a1 : Int} {ld : Nat} {l : LT} {c : CT} {B : Nat}
    (h : GX X R I a0 ld l c) (hj : CJ c ≠ []) (h1 : a1 = (B : Int)) (hB : B < 2147483648)
    {QE : String → jx_I → Prop} : jc V 6 195 (0, 0) [.ref a0, jy a1] X I R (fun rv I' => rv = some (jy (hwb l c B)) ∧ FS a0 I I') QE := by
  have hW := h.2.2.2.1
  have hW0 := hW.1
  refine wm_195 hV (by omega)  ?_
  have hl := GX_l h
  have hD := h.2.2.1; have hS := h.2.2.2.2.1; have hC := h.2.2.2.2.2.1; have hlo := h.2.1.2
  unfold wz_195
  refine ⟨s_GC_0 h.1, _, r_GC_0_8 h.1, _, r_GC_0_2 h.1, s_State_0 (b_GC_4 h.1), _, r_State_0_1 (b_GC_4 h.1), s_Row_0 (b_GC_28 h.1), ?_⟩
  refine ⟨_, cz_77 hV (b_GC_28 h.1) (b_GC_9 h.1) hS.2.1 (fun x hx => by have := hC.2.1.2 x hx; omega) (by omega) h1 hB, ?_⟩
  rintro _ I12 ⟨rfl, hR, hF1⟩
  refine ⟨rfl, ?_⟩
  refine ⟨_, r_GC_0_4 h.1, _, h.2.1.1, _, r_State_0_2 (b_GC_4 h.1), _, r_State_0_0 (b_GC_4 h.1), s_Trip_0 (b_GC_17 h.1), ?_⟩
  refine ⟨_, cz_121 hV (b_GC_17 h.1) hl (b_GC_11 h.1) (b_GC_28 h.1) (LD_fr hD hF1 (by omega)) hW (RW_fr hS.2.2.1 hF1 (by omega)) (WC_J hC hj).2.1 hR (fun x hx => hC.2.1.2 x (List.mem_filter.mp hx).1) (hC.2.1.1.sublist List.filter_sublist) hC.1 (by omega) (by omega) (by omega) (b_GC_5 h.1) (WC_J hC hj).2.2 (HD_fr hS.1 hF1 (by omega)) (by omega) (by omega), ?_⟩
  rintro _ I25 ⟨rfl, hT, h0, hF⟩
  refine ⟨rfl, ?_⟩
  refine ⟨_, cz_123 hV (b_GC_17 h.1), ?_⟩
  rintro _ I29 ⟨rfl, e9⟩; replace e9 := e9.symm; subst e9
  refine ⟨_, rfl, ?_⟩
  exact ⟨by rw [hT.2.1, hT.2.2.1]; rfl, FS_2 (FS_fr FS_refl hF1 (by omega)) hF h0 hlo⟩
/-- GrievingCamels.hours -/
theorem cz_154 {V : jx_V} (hV : V.1.stackTraces = false) {X : jx_X} {R : jx_R} {I : jx_I} {a0 : Nat} {a1 : Int} {ld : Nat} {l : LT} {c : CT} 
    (h : GX X R I a0 ld l c) (r_a1 : -2147483648 ≤ a1 ∧ a1 < 2147483648)
    : jc V 10 154 (2, 12) [.ref a0, jy a1] X I R (fun rv I' => nz (0 ≤ a1 ∧ a1 ≤ 2) 2 (nz (CJ c ≠ []) 3 (none)) = none ∧ rv = some (jy (if a1 = 0 then hrs l (CJ c) (CL c) (Cg c) (Cd c) else if a1 = 1 then rs (Lr l) (CJ c) ((CJ c).length - 1) else jhs l (CJ c) (CL c) (Cg c) (Cd c) ((CJ c).length - 1))) ∧ FS a0 I I') (fun E I' => ∃ k, nz (0 ≤ a1 ∧ a1 ≤ 2) 2 (nz (CJ c ≠ []) 3 (none)) = some k ∧ E = (jx_exe k).1 ∧ I' = rfs I a0 k) := by
  have hW := h.2.2.2.1
  have hW0 := hW.1
  refine wm_154 hV (by omega)  ?_
  have hl := GX_l h
  have hD := h.2.2.1; have hS := h.2.2.2.2.1; have hC := h.2.2.2.2.2.1; have hlo := h.2.1.2
  unfold wz_154
  refine ⟨s_GC_0 h.1, ?_⟩
  refine ⟨_, _, cz_190 hV h.1 (by omega) (by omega), fun Ex Ix h9 => ⟨2, by rw [nz_f h9.2.2], h9.1, h9.2.1⟩, ?_⟩
  rintro _ I6 ⟨rfl, e9, hp1⟩; replace e9 := e9.symm; subst e9
  refine ⟨rfl, ?_⟩
  refine ⟨_, _, cz_193 hV h, fun Ex Ix h9 => ⟨3, by rw [nz_t hp1]; rw [nz_f (fun k => k h9.2.2)], h9.1, h9.2.1⟩, ?_⟩
  rintro _ I12 ⟨rfl, e9, hpJ⟩; replace e9 := e9.symm; subst e9
  refine ⟨rfl, ?_⟩
  refine ⟨_, cz_194 hV h hpJ, ?_⟩
  rintro _ I16 ⟨rfl, hT, hF⟩
  refine ⟨rfl, ?_⟩
  refine ⟨fun hq1 => ?_, fun hq1 => ?_, fun hq1 => ?_⟩
  · refine ⟨_, r_GC_0_4 h.1, s_Trip_0 (b_GC_17 h.1), ?_⟩
    exact ⟨by rw [nz_t hp1, nz_t hpJ], by rw [hT.2.2.1, if_neg (by omega), if_neg (by omega)], hF⟩
  · refine ⟨_, r_GC_0_4 h.1, s_Trip_0 (b_GC_17 h.1), ?_⟩
    refine ⟨_, cz_123 hV (b_GC_17 h.1), ?_⟩
    rintro _ I26 ⟨rfl, e9⟩; replace e9 := e9.symm; subst e9
    refine ⟨_, rfl, ?_⟩
    exact ⟨by rw [nz_t hp1, nz_t hpJ], by rw [hT.2.1, hT.2.2.1, if_pos (by omega)]; rfl, hF⟩
  · refine ⟨_, r_GC_0_4 h.1, s_Trip_0 (b_GC_17 h.1), ?_⟩
    exact ⟨by rw [nz_t hp1, nz_t hpJ], by rw [hT.2.1, if_neg (by omega), if_pos (by omega)], hF⟩
/-- GrievingCamels.stop -/
theorem cz_155 {V : jx_V} (hV : V.1.stackTraces = false) {X : jx_X} {R : jx_R} {I : jx_I} {a0 : Nat} {a1 : Int} {ld : Nat} {l : LT} {c : CT} 
    (h : GX X R I a0 ld l c) (r_a1 : -2147483648 ≤ a1 ∧ a1 < 2147483648)
    : jc V 9 155 (1, 6) [.ref a0, jy a1] X I R (fun rv I' => nz (CJ c ≠ []) 3 (none) = none ∧ rv = some (jy (if 0 ≤ a1 ∧ a1 < (CJ c).length then (if a1 = 0 then 0 else jht l (CJ c) (CL c) (Cg c) (Cd c) (a1.toNat - 1)) else -1)) ∧ FS a0 I I') (fun E I' => ∃ k, nz (CJ c ≠ []) 3 (none) = some k ∧ E = (jx_exe k).1 ∧ I' = rfs I a0 k) := by
  have hW := h.2.2.2.1
  have hW0 := hW.1
  refine wm_155 hV (by omega)  ?_
  have hl := GX_l h
  have hD := h.2.2.1; have hS := h.2.2.2.2.1; have hC := h.2.2.2.2.2.1; have hlo := h.2.1.2
  have hmj := hS.2.2.1.1
  unfold wz_155
  refine ⟨s_GC_0 h.1, ?_⟩
  refine ⟨_, _, cz_193 hV h, fun Ex Ix h9 => ⟨3, by rw [nz_f (fun k => k h9.2.2)], h9.1, h9.2.1⟩, ?_⟩
  rintro _ I6 ⟨rfl, e9, hpJ⟩; replace e9 := e9.symm; subst e9
  refine ⟨rfl, ?_⟩
  have hJ1 := (WC_J hC hpJ).1
  refine ⟨fun hq1 => ?_, fun hq1 => ?_⟩
  · exact ⟨nz_t hpJ, by rw [if_neg (by omega)], FS_refl⟩
  · refine ⟨_, r_GC_0_2 h.1, s_State_0 (b_GC_4 h.1), _, r_State_0_2 (b_GC_4 h.1), s_Row_0 (b_GC_11 h.1), ?_⟩
    refine ⟨fun hq2 => ?_, fun hq2 => ?_⟩
    · refine ⟨_, cz_194 hV h hpJ, ?_⟩
      rintro _ I16 ⟨rfl, hT, hF⟩
      refine ⟨rfl, ?_⟩
      refine ⟨_, r_GC_0_4 h.1, s_Trip_0 (b_GC_17 h.1), _, r_Trip_0_2 (b_GC_17 h.1), _, ⟨s_Trip_6 (b_GC_17 h.1), by decide⟩, by omega, ?_⟩
      refine ⟨nz_t hpJ, ?_, hF⟩
      rw [if_pos (by omega)]
      by_cases e : a1 = 0
      · have h0 := (GX_s h hF).2.2.2.2.2.2
        rw [if_pos e, e, show a0 + 17 + 6 = a0 + 23 from rfl, show (0 : Int).toNat = 0 from rfl, h0]; rfl
      · rw [if_neg e, show a1.toNat = (a1.toNat - 1) + 1 by omega, (hT.2.2.2 (a1.toNat - 1) (by omega)).1]; rfl
    · exact ⟨nz_t hpJ, by rw [if_neg (by omega)], FS_refl⟩
/-- GrievingCamels.whose -/
theorem cz_156 {V : jx_V} (hV : V.1.stackTraces = false) {X : jx_X} {R : jx_R} {I : jx_I} {a0 : Nat} {a1 : Int} {ld : Nat} {l : LT} {c : CT} 
    (h : GX X R I a0 ld l c) (r_a1 : -2147483648 ≤ a1 ∧ a1 < 2147483648)
    : jc V 9 156 (1, 6) [.ref a0, jy a1] X I R (fun rv I' => nz (CJ c ≠ []) 3 (none) = none ∧ rv = some (jy (if 1 ≤ a1 ∧ a1 < (CJ c).length then (mgr ((jst l (CJ c) (CL c) (Cg c) (Cd c) (a1.toNat - 1)).1 ((CJ c).getD a1.toNat 0)) (CL c)).2 else -1)) ∧ FS a0 I I') (fun E I' => ∃ k, nz (CJ c ≠ []) 3 (none) = some k ∧ E = (jx_exe k).1 ∧ I' = rfs I a0 k) := by
  have hW := h.2.2.2.1
  have hW0 := hW.1
  refine wm_156 hV (by omega)  ?_
  have hl := GX_l h
  have hD := h.2.2.1; have hS := h.2.2.2.2.1; have hC := h.2.2.2.2.2.1; have hlo := h.2.1.2
  have hmj := hS.2.2.1.1
  have hL8 : ∀ x ∈ CL c, x < 8 := fun x hx => by have := hC.2.1.2 x hx; omega
  unfold wz_156
  refine ⟨s_GC_0 h.1, ?_⟩
  refine ⟨_, _, cz_193 hV h, fun Ex Ix h9 => ⟨3, by rw [nz_f (fun k => k h9.2.2)], h9.1, h9.2.1⟩, ?_⟩
  rintro _ I6 ⟨rfl, e9, hpJ⟩; replace e9 := e9.symm; subst e9
  refine ⟨rfl, ?_⟩
  refine ⟨fun hq1 => ?_, fun hq1 => ?_⟩
  · exact ⟨nz_t hpJ, by rw [if_neg (by omega)], FS_refl⟩
  · refine ⟨_, r_GC_0_2 h.1, s_State_0 (b_GC_4 h.1), _, r_State_0_2 (b_GC_4 h.1), s_Row_0 (b_GC_11 h.1), ?_⟩
    refine ⟨fun hq2 => ?_, fun hq2 => ?_⟩
    · refine ⟨_, cz_194 hV h hpJ, ?_⟩
      rintro _ I16 ⟨rfl, hT, hF⟩
      refine ⟨rfl, ?_⟩
      refine ⟨_, r_GC_0_4 h.1, _, r_State_0_1 (b_GC_4 h.1), s_Trip_0 (b_GC_17 h.1), ?_⟩
      have hJ1 := (WC_J hC hpJ).1
      have hJ10 : ∀ k, k < (CJ c).length → (CJ c).getD k 0 < 10 := fun k hk => by
        have m1 : (CJ c).getD k 0 ∈ CJ c := by rw [List.getD_eq_getElem?_getD, List.getElem?_eq_getElem hk]; exact List.getElem_mem _
        have := (WC_J hC hpJ).2.1 _ m1
        omega
      have hGj := fun k hk => GD_j (l := l) hC.1 (fun x hx => by have := (WC_J hC hpJ).2.1 x hx; omega) hL8 k (Or.inl hk)
      refine ⟨_, cz_125 (i := a1.toNat) (g := (jst l (CJ c) (CL c) (Cg c) (Cd c) (a1.toNat - 1)).1 ((CJ c).getD a1.toNat 0)) hV (b_GC_17 h.1) (b_GC_9 h.1) (RW_of hS.2.1 (hF.1 _ (by omega) (by omega) (by omega) (by omega)) (hF.1 _ (by omega) (by omega) (by omega) (by omega))) hL8 (by omega) (by omega) (fun x hx => ⟨by
        have h9 := (hT.2.2.2 (a1.toNat - 1) (by omega)).2 x (hL8 x hx)
        rw [show a1.toNat - 1 + 1 = a1.toNat by omega] at h9
        exact h9, (hGj (a1.toNat - 1) (by omega) _ x (hJ10 _ (by omega)) (hL8 x hx)).1⟩), ?_⟩
      rintro _ I25 ⟨rfl, e9⟩; replace e9 := e9.symm; subst e9
      refine ⟨_, rfl, ?_⟩
      exact ⟨nz_t hpJ, by rw [if_pos (by omega)], hF⟩
    · exact ⟨nz_t hpJ, by rw [if_neg (by omega)], FS_refl⟩
/-- of the first n + 1 the place of the greatest, of these the first -/
def hvy (f : Nat → Int) : Nat → Nat
  | 0 => 0
  | n + 1 => if f (hvy f n) < f (n + 1) then n + 1 else hvy f n
theorem hvy_s (f : Nat → Int) (n : Nat) : hvy f (n + 1) = if f (hvy f n) < f (n + 1) then n + 1 else hvy f n := rfl
theorem hvy_le (f : Nat → Int) : ∀ n, hvy f n ≤ n
  | 0 => Nat.le_refl _
  | n + 1 => by
    have := hvy_le f n
    rw [hvy_s]
    split <;> omega
/-- GrievingCamels.heavy -/
theorem cz_157 {V : jx_V} (hV : V.1.stackTraces = false) {X : jx_X} {R : jx_R} {I : jx_I} {a0 : Nat} {ld : Nat} {l : LT} {c : CT} 
    (h : GX X R I a0 ld l c) 
    : jc V 9 157 (1, 6) [.ref a0] X I R (fun rv I' => nz (CJ c ≠ []) 3 (none) = none ∧ rv = some (jy ((hvy (jht l (CJ c) (CL c) (Cg c) (Cd c)) ((CJ c).length - 2) + 1 : Nat) : Int)) ∧ FS a0 I I') (fun E I' => ∃ k, nz (CJ c ≠ []) 3 (none) = some k ∧ E = (jx_exe k).1 ∧ I' = rfs I a0 k) := by
  have hW := h.2.2.2.1
  have hW0 := hW.1
  refine wm_157 hV   (fun J12 J49 hJJ => ?_)
  obtain ⟨hJ12, hJ49⟩ := hJJ
  have hl := GX_l h
  have hD := h.2.2.1; have hS := h.2.2.2.2.1; have hC := h.2.2.2.2.2.1; have hlo := h.2.1.2
  unfold wz_157
  refine ⟨s_GC_0 h.1, ?_⟩
  refine ⟨_, _, cz_193 hV h, fun Ex Ix h9 => ⟨3, by rw [nz_f (fun k => k h9.2.2)], h9.1, h9.2.1⟩, ?_⟩
  rintro _ I6 ⟨rfl, e9, hpJ⟩; replace e9 := e9.symm; subst e9
  refine ⟨rfl, ?_⟩
  refine ⟨_, cz_194 hV h hpJ, ?_⟩
  rintro _ I10 ⟨rfl, hT, hF⟩
  refine ⟨rfl, ?_⟩
  have L12 : ∀ (n12 : Nat) (l1 : Int) (l2 : Int) (K : jx_I), n12 = (((CJ c).length : Int) - l2).toNat → (∃ n : Nat, l2 = (n + 2 : Nat) ∧ n + 2 ≤ (CJ c).length ∧ l1 = ((hvy (jht l (CJ c) (CL c) (Cg c) (Cd c)) n + 1 : Nat) : Int) ∧ TC K (a0 + 17) l c ∧ FS a0 I K) → J12 l1 l2 K := by
    intro n12
    induction n12 using Nat.strongRecOn with
    | ind n12 ih12 =>
    intro l1 l2 K hn12 hI12
    obtain ⟨n, rfl, hn, rfl, hT, hF⟩ := hI12
    have hmj := (GX_s h hF).2.2.2.2.1.2.2.1.1
    have hle := hvy_le (jht l (CJ c) (CL c) (Cg c) (Cd c)) n
    have hJ1 := (WC_J hC hpJ).1
    refine hJ12 _ _ _ ?_
    unfold wz_157_12
    refine ⟨s_GC_0 h.1, _, r_GC_0_2 h.1, s_State_0 (b_GC_4 h.1), _, r_State_0_2 (b_GC_4 h.1), s_Row_0 (b_GC_11 h.1), by omega, ?_⟩
    refine ⟨fun hq1 => ?_, fun hq1 => ?_⟩
    · rw [show (CJ c).length - 2 = n by omega]
      exact ⟨nz_t hpJ, by trivial, hF⟩
    · have v1 := (hT.2.2.2 (n + 1) (by omega)).1
      have v2 := (hT.2.2.2 (hvy (jht l (CJ c) (CL c) (Cg c) (Cd c)) n) (by omega)).1
      have hx := hlt_rng
      refine ⟨_, r_GC_0_4 h.1, s_Trip_0 (b_GC_17 h.1), _, r_Trip_0_2 (b_GC_17 h.1), _, ⟨s_Trip_6 (b_GC_17 h.1), by decide⟩, ?_⟩
      try simp only [-eq_self, show ((n + 2 : Nat) : Int).toNat = n + 1 + 1 by omega, show ((hvy (jht l (CJ c) (CL c) (Cg c) (Cd c)) n + 1 : Nat) : Int).toNat = hvy (jht l (CJ c) (CL c) (Cg c) (Cd c)) n + 1 by omega, v1, v2]
      refine ⟨by omega, by omega, ?_⟩
      refine ⟨fun hq2 => ?_, fun hq2 => ?_⟩
      · exact ih12 _ (by omega) _ _ _ rfl (⟨n + 1, by omega, by omega, by show _ = ((hvy (jht l (CJ c) (CL c) (Cg c) (Cd c)) (n + 1) + 1 : Nat) : Int); rw [hvy_s, if_neg (by omega)], hT, hF⟩)
      · refine hJ49 _ _ _ ?_
        unfold wz_157_49
        exact ih12 _ (by omega) _ _ _ rfl (⟨n + 1, by omega, by omega, by show _ = ((hvy (jht l (CJ c) (CL c) (Cg c) (Cd c)) (n + 1) + 1 : Nat) : Int); rw [hvy_s, if_pos (by omega)], hT, hF⟩)
  exact L12 _ _ _ _ rfl (⟨0, rfl, (WC_J hC hpJ).1.1, rfl, hT, hF⟩)
/-- only what is tried, and what is kept, changes in the class -/
def FG (b : Nat) (I I' : jx_I) : Prop := (∀ q, (q < b + 4 ∨ b + 16 ≤ q) → (q < b + 17 ∨ b + 36 ≤ q) → (q < b + 45 ∨ b + 47 ≤ q) → (q < b + 56 ∨ b + 58 ≤ q) → (q < b + 82 ∨ b + 89 ≤ q) → I' q = I q) ∧ I' (b + 23) 0 = I (b + 23) 0
theorem FG_s {b : Nat} {I I' : jx_I} (h : FS b I I') : FG b I I' := ⟨fun q _ a b c d => h.1 q a b c d, h.2⟩
theorem FG_fr {b lo hi : Nat} {I I' I2 : jx_I} (h : FG b I I') (h2 : FR lo hi I' I2) (ho : (b + 4 ≤ lo ∧ hi ≤ b + 16) ∨ (b + 17 ≤ lo ∧ hi ≤ b + 23) ∨ (b + 24 ≤ lo ∧ hi ≤ b + 36) ∨ (b + 45 ≤ lo ∧ hi ≤ b + 47) ∨ (b + 56 ≤ lo ∧ hi ≤ b + 58) ∨ (b + 82 ≤ lo ∧ hi ≤ b + 89)) : FG b I I2 := ⟨fun q a1 a2 a3 a4 a5 => (h2 q (by omega)).trans (h.1 q a1 a2 a3 a4 a5), by rw [h2 _ (by omega)]; exact h.2⟩
/-- GrievingCamels.go -/
theorem cz_158 {V : jx_V} (hV : V.1.stackTraces = false) {X : jx_X} {R : jx_R} {I : jx_I} {a0 : Nat} {ld : Nat} {l : LT} {c : CT} 
    (h : GX X R I a0 ld l c) 
    : jc V 9 158 (1, 6) [.ref a0] X I R (fun rv I' => nz (CJ c ≠ []) 3 (none) = none ∧ ((24 ≤ (CU c).length ∧ rv = some (jy (-1)) ∧ I' = I) ∨ ((CU c).length < 24 ∧ rv = some (jy (hrs l (CJ c) (CL c) (Cg c) (Cd c))) ∧ SX I' (a0 + 4) ((jst l (CJ c) (CL c) (Cg c) (Cd c) ((CJ c).length - 1)), c.2.1, CN c, CU c ++ [c.1]) ∧ FG a0 I I'))) (fun E I' => ∃ k, nz (CJ c ≠ []) 3 (none) = some k ∧ E = (jx_exe k).1 ∧ I' = rfs I a0 k) := by
  have hW := h.2.2.2.1
  have hW0 := hW.1
  refine wm_158 hV   ?_
  have hl := GX_l h
  have hD := h.2.2.1; have hS := h.2.2.2.2.1; have hC := h.2.2.2.2.2.1; have hlo := h.2.1.2
  have hmu := hS.2.2.2.2.1
  unfold wz_158
  refine ⟨s_GC_0 h.1, ?_⟩
  refine ⟨_, _, cz_193 hV h, fun Ex Ix h9 => ⟨3, by rw [nz_f (fun k => k h9.2.2)], h9.1, h9.2.1⟩, ?_⟩
  rintro _ I6 ⟨rfl, e9, hpJ⟩; replace e9 := e9.symm; subst e9
  refine ⟨rfl, ?_⟩
  refine ⟨_, r_GC_0_2 h.1, s_State_0 (b_GC_4 h.1), ?_⟩
  refine ⟨fun hq1 => ?_, fun hq1 => ?_⟩
  · refine ⟨_, cz_194 hV h hpJ, ?_⟩
    rintro _ I13 ⟨rfl, hT, hF⟩
    refine ⟨rfl, ?_⟩
    refine ⟨_, cz_99 hV (b_GC_4 h.1) (GX_s h hF).2.2.2.2.1 (by omega), ?_⟩
    rintro _ I17 ⟨rfl, hS2, hF2, hO2⟩
    refine ⟨rfl, ?_⟩
    refine ⟨_, r_State_0_0 (b_GC_4 h.1), _, r_GC_0_4 h.1, s_Trip_0 (b_GC_17 h.1), _, r_Trip_0_0 (b_GC_17 h.1), s_Herd_0 (b_GC_5 h.1), ?_⟩
    refine ⟨_, cz_9 hV (b_GC_5 h.1) (b_GC_18 h.1) (by omega) (HD_fr hT.1 hF2 (by omega)), ?_⟩
    rintro _ I29 ⟨rfl, hH3, hF3⟩
    refine ⟨rfl, ?_⟩
    refine ⟨_, cz_123 hV (b_GC_17 h.1), ?_⟩
    rintro _ I33 ⟨rfl, e9⟩; replace e9 := e9.symm; subst e9
    refine ⟨_, rfl, ?_⟩
    refine ⟨nz_t hpJ, Or.inr ⟨by omega, ?_, ?_, FG_fr (FG_fr (FG_s hF) hF2 (by omega)) hF3 (by omega)⟩⟩
    · rw [hF3 (a0 + 17) (by omega), hF2 (a0 + 17) (by omega), hT.2.1, hT.2.2.1]; rfl
    · exact ⟨hH3, RW_fr hS2.2.1 hF3 (by omega), RW_fr hS2.2.2.1 hF3 (by omega), by rw [hF3 (a0 + 4) (by omega), hF3 (a0 + 4 + 9) (by omega), hF3 (a0 + 4 + 10) (by omega)]; exact hS2.2.2.2.1, by rw [hF3 (a0 + 4) (by omega), hF3 (a0 + 4 + 11) (by omega)]; exact hS2.2.2.2.2⟩
  · exact ⟨nz_t hpJ, Or.inl ⟨by omega, rfl, rfl⟩⟩
