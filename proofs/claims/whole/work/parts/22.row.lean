/-! ===== contracts: Math, Integer.bitCount, Row ===== -/
/-- java/lang/Math.max -/
theorem cz_328 {V : jx_V} (hV : V.1.stackTraces = false) {X : jx_X} {R : jx_R} {I : jx_I} {a0 : Int} {a1 : Int} 
    (r_a0 : -2147483648 ≤ a0 ∧ a0 < 2147483648) (r_a1 : -2147483648 ≤ a1 ∧ a1 < 2147483648)
    {QE : String → jx_I → Prop} : jc V 1 328 (0, 0) [jy a0, jy a1] X I R (fun rv I' => rv = some (jy (max a0 a1)) ∧ I' = I) QE := by
  refine wm_328 hV (by omega) (by omega)  ?_
  unfold wz_328
  refine ⟨fun hq1 => ?_, fun hq1 => ?_⟩
  · exact ⟨by rw [show max a0 a1 = a1 by omega], rfl⟩
  · exact ⟨by rw [show max a0 a1 = a0 by omega], rfl⟩
/-- java/lang/Math.min -/
theorem cz_329 {V : jx_V} (hV : V.1.stackTraces = false) {X : jx_X} {R : jx_R} {I : jx_I} {a0 : Int} {a1 : Int} 
    (r_a0 : -2147483648 ≤ a0 ∧ a0 < 2147483648) (r_a1 : -2147483648 ≤ a1 ∧ a1 < 2147483648)
    {QE : String → jx_I → Prop} : jc V 1 329 (0, 0) [jy a0, jy a1] X I R (fun rv I' => rv = some (jy (min a0 a1)) ∧ I' = I) QE := by
  refine wm_329 hV (by omega) (by omega)  ?_
  unfold wz_329
  refine ⟨fun hq1 => ?_, fun hq1 => ?_⟩
  · exact ⟨by rw [show min a0 a1 = a1 by omega], rfl⟩
  · exact ⟨by rw [show min a0 a1 = a0 by omega], rfl⟩
/-- how many bits -/
def pc (B : Nat) : Nat := ((List.range 10).filter (fun c => B.testBit c)).length
def jz_bc (a0 : Int) : Int := (Int32.ofInt (((Int32.ofInt (((Int32.ofInt (a0 - (Int32.ofInt ((((Int32.ofInt a0).toUInt32 >>> ((Int32.ofInt 1).toUInt32 &&& Int32.toUInt32 31)).toInt32).toInt) &&& Int32.ofInt 1431655765).toInt) &&& Int32.ofInt 858993459).toInt + (Int32.ofInt ((((Int32.ofInt (a0 - (Int32.ofInt ((((Int32.ofInt a0).toUInt32 >>> ((Int32.ofInt 1).toUInt32 &&& Int32.toUInt32 31)).toInt32).toInt) &&& Int32.ofInt 1431655765).toInt)).toUInt32 >>> ((Int32.ofInt 2).toUInt32 &&& Int32.toUInt32 31)).toInt32).toInt) &&& Int32.ofInt 858993459).toInt) + (((Int32.ofInt ((Int32.ofInt (a0 - (Int32.ofInt ((((Int32.ofInt a0).toUInt32 >>> ((Int32.ofInt 1).toUInt32 &&& Int32.toUInt32 31)).toInt32).toInt) &&& Int32.ofInt 1431655765).toInt) &&& Int32.ofInt 858993459).toInt + (Int32.ofInt ((((Int32.ofInt (a0 - (Int32.ofInt ((((Int32.ofInt a0).toUInt32 >>> ((Int32.ofInt 1).toUInt32 &&& Int32.toUInt32 31)).toInt32).toInt) &&& Int32.ofInt 1431655765).toInt)).toUInt32 >>> ((Int32.ofInt 2).toUInt32 &&& Int32.toUInt32 31)).toInt32).toInt) &&& Int32.ofInt 858993459).toInt)).toUInt32 >>> ((Int32.ofInt 4).toUInt32 &&& Int32.toUInt32 31)).toInt32).toInt) &&& Int32.ofInt 252645135).toInt + (((Int32.ofInt ((Int32.ofInt (((Int32.ofInt (a0 - (Int32.ofInt ((((Int32.ofInt a0).toUInt32 >>> ((Int32.ofInt 1).toUInt32 &&& Int32.toUInt32 31)).toInt32).toInt) &&& Int32.ofInt 1431655765).toInt) &&& Int32.ofInt 858993459).toInt + (Int32.ofInt ((((Int32.ofInt (a0 - (Int32.ofInt ((((Int32.ofInt a0).toUInt32 >>> ((Int32.ofInt 1).toUInt32 &&& Int32.toUInt32 31)).toInt32).toInt) &&& Int32.ofInt 1431655765).toInt)).toUInt32 >>> ((Int32.ofInt 2).toUInt32 &&& Int32.toUInt32 31)).toInt32).toInt) &&& Int32.ofInt 858993459).toInt) + (((Int32.ofInt ((Int32.ofInt (a0 - (Int32.ofInt ((((Int32.ofInt a0).toUInt32 >>> ((Int32.ofInt 1).toUInt32 &&& Int32.toUInt32 31)).toInt32).toInt) &&& Int32.ofInt 1431655765).toInt) &&& Int32.ofInt 858993459).toInt + (Int32.ofInt ((((Int32.ofInt (a0 - (Int32.ofInt ((((Int32.ofInt a0).toUInt32 >>> ((Int32.ofInt 1).toUInt32 &&& Int32.toUInt32 31)).toInt32).toInt) &&& Int32.ofInt 1431655765).toInt)).toUInt32 >>> ((Int32.ofInt 2).toUInt32 &&& Int32.toUInt32 31)).toInt32).toInt) &&& Int32.ofInt 858993459).toInt)).toUInt32 >>> ((Int32.ofInt 4).toUInt32 &&& Int32.toUInt32 31)).toInt32).toInt) &&& Int32.ofInt 252645135).toInt)).toUInt32 >>> ((Int32.ofInt 8).toUInt32 &&& Int32.toUInt32 31)).toInt32).toInt) + (((Int32.ofInt ((Int32.ofInt (((Int32.ofInt (a0 - (Int32.ofInt ((((Int32.ofInt a0).toUInt32 >>> ((Int32.ofInt 1).toUInt32 &&& Int32.toUInt32 31)).toInt32).toInt) &&& Int32.ofInt 1431655765).toInt) &&& Int32.ofInt 858993459).toInt + (Int32.ofInt ((((Int32.ofInt (a0 - (Int32.ofInt ((((Int32.ofInt a0).toUInt32 >>> ((Int32.ofInt 1).toUInt32 &&& Int32.toUInt32 31)).toInt32).toInt) &&& Int32.ofInt 1431655765).toInt)).toUInt32 >>> ((Int32.ofInt 2).toUInt32 &&& Int32.toUInt32 31)).toInt32).toInt) &&& Int32.ofInt 858993459).toInt) + (((Int32.ofInt ((Int32.ofInt (a0 - (Int32.ofInt ((((Int32.ofInt a0).toUInt32 >>> ((Int32.ofInt 1).toUInt32 &&& Int32.toUInt32 31)).toInt32).toInt) &&& Int32.ofInt 1431655765).toInt) &&& Int32.ofInt 858993459).toInt + (Int32.ofInt ((((Int32.ofInt (a0 - (Int32.ofInt ((((Int32.ofInt a0).toUInt32 >>> ((Int32.ofInt 1).toUInt32 &&& Int32.toUInt32 31)).toInt32).toInt) &&& Int32.ofInt 1431655765).toInt)).toUInt32 >>> ((Int32.ofInt 2).toUInt32 &&& Int32.toUInt32 31)).toInt32).toInt) &&& Int32.ofInt 858993459).toInt)).toUInt32 >>> ((Int32.ofInt 4).toUInt32 &&& Int32.toUInt32 31)).toInt32).toInt) &&& Int32.ofInt 252645135).toInt + (((Int32.ofInt ((Int32.ofInt (((Int32.ofInt (a0 - (Int32.ofInt ((((Int32.ofInt a0).toUInt32 >>> ((Int32.ofInt 1).toUInt32 &&& Int32.toUInt32 31)).toInt32).toInt) &&& Int32.ofInt 1431655765).toInt) &&& Int32.ofInt 858993459).toInt + (Int32.ofInt ((((Int32.ofInt (a0 - (Int32.ofInt ((((Int32.ofInt a0).toUInt32 >>> ((Int32.ofInt 1).toUInt32 &&& Int32.toUInt32 31)).toInt32).toInt) &&& Int32.ofInt 1431655765).toInt)).toUInt32 >>> ((Int32.ofInt 2).toUInt32 &&& Int32.toUInt32 31)).toInt32).toInt) &&& Int32.ofInt 858993459).toInt) + (((Int32.ofInt ((Int32.ofInt (a0 - (Int32.ofInt ((((Int32.ofInt a0).toUInt32 >>> ((Int32.ofInt 1).toUInt32 &&& Int32.toUInt32 31)).toInt32).toInt) &&& Int32.ofInt 1431655765).toInt) &&& Int32.ofInt 858993459).toInt + (Int32.ofInt ((((Int32.ofInt (a0 - (Int32.ofInt ((((Int32.ofInt a0).toUInt32 >>> ((Int32.ofInt 1).toUInt32 &&& Int32.toUInt32 31)).toInt32).toInt) &&& Int32.ofInt 1431655765).toInt)).toUInt32 >>> ((Int32.ofInt 2).toUInt32 &&& Int32.toUInt32 31)).toInt32).toInt) &&& Int32.ofInt 858993459).toInt)).toUInt32 >>> ((Int32.ofInt 4).toUInt32 &&& Int32.toUInt32 31)).toInt32).toInt) &&& Int32.ofInt 252645135).toInt)).toUInt32 >>> ((Int32.ofInt 8).toUInt32 &&& Int32.toUInt32 31)).toInt32).toInt)).toUInt32 >>> ((Int32.ofInt 16).toUInt32 &&& Int32.toUInt32 31)).toInt32).toInt) &&& Int32.ofInt 63).toInt
theorem jz_bc_ok : ∀ B : Nat, B < 1024 → jz_bc (B : Int) = (pc B : Int) := by decide +kernel
/-- java/lang/Integer.bitCount -/
theorem cz_327 {V : jx_V} (hV : V.1.stackTraces = false) {X : jx_X} {R : jx_R} {I : jx_I} {a0 : Int} {B : Nat}
    (h0 : a0 = (B : Int)) (hB : B < 1024)
    {QE : String → jx_I → Prop} : jc V 1 327 (0, 0) [jy a0] X I R (fun rv I' => rv = some (jy (pc B : Nat)) ∧ I' = I) QE := by
  refine wm_327 hV (by omega)  ?_
  unfold wz_327
  refine ⟨?_, rfl⟩
  subst h0
  rw [← jz_bc_ok B hB]
  rfl
theorem RW_nil {I : jx_I} {a : Nat} (h : (I a 1).toInt = 0) : RW I a [] := ⟨by rw [h]; rfl, by decide, fun k x h => by cases h⟩
theorem RW_put {I I' : jx_I} {a x : Nat} {L : List Nat} (h : RW I a L) (hl : L.length < 12) (h1 : (I' a 1).toInt = (L.length + 1 : Nat)) (h2 : (I' (a + 1) L.length).toInt = (x : Int)) (h3 : ∀ k, k < L.length → I' (a + 1) k = I (a + 1) k) : RW I' a (L ++ [x]) := by
  refine ⟨by rw [h1]; simp, by simp; omega, fun k y hk => ?_⟩
  rcases Nat.lt_trichotomy k L.length with hc | hc | hc
  · rw [List.getElem?_append_left hc] at hk
    rw [h3 k hc]
    exact h.2.2 k y hk
  · subst hc
    simp at hk
    rw [h2, hk]
  · rw [List.getElem?_append_right (by omega)] at hk
    have : ([x] : List Nat)[k - L.length]? = none := List.getElem?_eq_none (by simp; omega)
    rw [this] at hk
    cases hk
theorem RW_get {I : jx_I} {a : Nat} {L : List Nat} (h : RW I a L) {i : Nat} (hi : i < L.length) : ∃ y, L[i]? = some y ∧ (I (a + 1) i).toInt = (y : Int) := ⟨_, List.getElem?_eq_getElem hi, h.2.2 i _ (List.getElem?_eq_getElem hi)⟩
/-- GrievingCamels$Row.empty -/
theorem cz_68 {V : jx_V} (hV : V.1.stackTraces = false) {X : jx_X} {R : jx_R} {I : jx_I} {a0 : Nat} 
    (hr : BX X R a0 TRow)
    {QE : String → jx_I → Prop} : jc V 1 68 (0, 0) [.ref a0] X I R (fun rv I' => rv = none ∧ I' = jx_u I a0 1 (Int32.ofInt 0)) QE := by
  refine wm_68 hV   ?_
  unfold wz_68
  refine ⟨s_Row_0 hr, ?_⟩
  intro I2 e_I2; subst e_I2
  exact ⟨rfl, rfl⟩
theorem RW_empty (I : jx_I) (a : Nat) : RW (jx_u I a 1 (Int32.ofInt 0)) a [] := RW_nil (by rw [jx_u_s]; rfl)
theorem FR_empty (I : jx_I) (a k : Nat) (v : Int32) {hi : Nat} (h : a < hi) : FR a hi I (jx_u I a k v) := FR_u FR_refl (by omega) h
/-- GrievingCamels$Row.add -/
theorem cz_69 {V : jx_V} (hV : V.1.stackTraces = false) {X : jx_X} {R : jx_R} {I : jx_I} {a0 : Nat} {a1 : Int} {x : Nat} {L : List Nat}
    (hr : BX X R a0 TRow) (hL : RW I a0 L) (hl : L.length < 12) (h1 : a1 = (x : Int)) (hx : x < 2147483648)
    {QE : String → jx_I → Prop} : jc V 1 69 (0, 0) [.ref a0, jy a1] X I R (fun rv I' => rv = none ∧ RW I' a0 (L ++ [x]) ∧ FR a0 (a0 + 2) I I') QE := by
  refine wm_69 hV (by omega)  ?_
  have hm := hL.1
  unfold wz_69
  refine ⟨s_Row_0 hr, _, r_Row_0_0 hr, _, ⟨s_Row_1 hr, by decide⟩, ?_⟩
  refine ⟨fun hq1 => ?_, fun hq1 => ?_⟩
  · omega
  · refine ⟨by omega, ?_⟩
    intro I7 e_I7; subst e_I7
    intro I8 e_I8; subst e_I8
    refine ⟨rfl, RW_put hL hl ?_ ?_ ?_, FR_u (FR_u FR_refl (by omega) (by omega)) (by omega) (by omega)⟩
    · rw [jx_u_s, jx_u_a _ _ _ _ (by omega), hm]; exact jy_toInt (by omega)
    · rw [jx_u_a _ _ _ _ (by omega), hm, Int.toNat_natCast, jx_u_s, h1]; exact jy_toInt (by omega)
    · intro k hk; rw [jx_u_a _ _ _ _ (by omega), hm, Int.toNat_natCast, jx_u_k _ _ _ _ (by omega)]
/-- GrievingCamels$Row.has -/
theorem cz_72 {V : jx_V} (hV : V.1.stackTraces = false) {X : jx_X} {R : jx_R} {I : jx_I} {a0 : Nat} {a1 : Int} {x : Nat} {L : List Nat}
    (hr : BX X R a0 TRow) (hL : RW I a0 L) (h1 : a1 = (x : Int)) (hx : x < 2147483648)
    {QE : String → jx_I → Prop} : jc V 1 72 (0, 0) [.ref a0, jy a1] X I R (fun rv I' => rv = some (jy (if x ∈ L then 1 else 0)) ∧ I' = I) QE := by
  refine wm_72 hV (by omega)  (fun J2 hJJ => ?_)
  have hJ2 := hJJ
  have hm := hL.1; have hn := hL.2.1
  unfold wz_72
  have L2 : ∀ (n2 : Nat) (l2 : Int) (K : jx_I), n2 = ((L.length : Int) - l2).toNat → (∃ i : Nat, l2 = i ∧ i ≤ L.length ∧ x ∉ L.take i ∧ K = I) → J2 l2 K := by
    intro n2
    induction n2 using Nat.strongRecOn with
    | ind n2 ih2 =>
    intro l2 K hn2 hI2
    obtain ⟨i, rfl, hi, hx2, rfl⟩ := hI2
    refine hJ2 _ _ ?_
    unfold wz_72_2
    refine ⟨s_Row_0 hr, by omega, ?_⟩
    refine ⟨fun hq1 => ?_, fun hq1 => ?_⟩
    · refine ⟨?_, rfl⟩
      rw [if_neg]
      rwa [List.take_of_length_le (by omega)] at hx2
    · refine ⟨_, r_Row_0_0 hr, _, ⟨s_Row_1 hr, by decide⟩, by omega, ?_⟩
      refine ⟨fun hq2 => ?_, fun hq2 => ?_⟩
      · obtain ⟨y, hy, hv⟩ := RW_get hL (i := i) (by omega)
        rw [Int.toNat_natCast, hv, h1] at hq2
        exact ih2 _ (by omega) _ _ rfl (⟨i + 1, by omega, by omega, by rw [ls_last hy, List.mem_append]; simp; exact ⟨hx2, by omega⟩, rfl⟩)
      · obtain ⟨y, hy, hv⟩ := RW_get hL (i := i) (by omega)
        rw [Int.toNat_natCast, hv, h1] at hq2
        refine ⟨?_, rfl⟩
        rw [if_pos]
        have : y = x := by omega
        rw [← this]
        exact List.mem_of_getElem? hy
  exact L2 _ _ _ rfl (⟨0, rfl, by omega, by simp, rfl⟩)
/-- the i-th of a row, -1: none such -/
def itm (L : List Nat) (a : Int) : Int := if 0 ≤ a ∧ a < L.length then (L.getD a.toNat 0 : Nat) else -1
theorem itm_o {L : List Nat} {a : Int} (h : a < 0 ∨ (L.length : Int) ≤ a) : itm L a = -1 := if_neg (by omega)
theorem itm_i {L : List Nat} {a : Int} {y : Nat} (h : 0 ≤ a) (hy : L[a.toNat]? = some y) : itm L a = (y : Int) := by
  have h1 := (List.getElem?_eq_some_iff.mp hy).1
  unfold itm
  rw [if_pos (by omega), List.getD_eq_getElem?_getD, hy]
  rfl
/-- GrievingCamels$Row.itemAt -/
theorem cz_73 {V : jx_V} (hV : V.1.stackTraces = false) {X : jx_X} {R : jx_R} {I : jx_I} {a0 : Nat} {a1 : Int} {L : List Nat}
    (hr : BX X R a0 TRow) (hL : RW I a0 L) (r_a1 : -2147483648 ≤ a1 ∧ a1 < 2147483648)
    {QE : String → jx_I → Prop} : jc V 1 73 (0, 0) [.ref a0, jy a1] X I R (fun rv I' => rv = some (jy (itm L a1)) ∧ I' = I) QE := by
  refine wm_73 hV (by omega)  ?_
  have hm := hL.1; have hn := hL.2.1
  unfold wz_73
  refine ⟨fun hq1 => ?_, fun hq1 => ?_⟩
  · exact ⟨by rw [itm_o (by omega)], rfl⟩
  · refine ⟨s_Row_0 hr, ?_⟩
    refine ⟨fun hq2 => ?_, fun hq2 => ?_⟩
    · exact ⟨by rw [itm_o (by omega)], rfl⟩
    · refine ⟨_, r_Row_0_0 hr, _, ⟨s_Row_1 hr, by decide⟩, by omega, ?_⟩
      obtain ⟨y, hy, hv⟩ := RW_get hL (i := a1.toNat) (by omega)
      exact ⟨by rw [hv, itm_i (by omega) hy], rfl⟩
/-- GrievingCamels$Row.copyFrom -/
theorem cz_74 {V : jx_V} (hV : V.1.stackTraces = false) {X : jx_X} {R : jx_R} {I : jx_I} {a0 : Nat} {a1 : Nat} {L : List Nat}
    (hr : BX X R a0 TRow) (hs : BX X R a1 TRow) (hd : a0 + 2 ≤ a1 ∨ a1 + 2 ≤ a0) (hL : RW I a1 L)
    {QE : String → jx_I → Prop} : jc V 1 74 (0, 0) [.ref a0, .ref a1] X I R (fun rv I' => rv = none ∧ RW I' a0 L ∧ FR a0 (a0 + 2) I I') QE := by
  refine wm_74 hV   ?_
  unfold wz_74
  refine ⟨s_Row_0 hs, s_Row_0 hr, ?_⟩
  intro I3 e_I3; subst e_I3
  refine ⟨_, r_Row_0_0 hs, _, r_Row_0_0 hr, _, ⟨s_Row_1 hr, by decide⟩, _, ⟨s_Row_1 hs, by decide⟩, by omega, ?_⟩
  intro I13 e_I13; subst e_I13
  refine ⟨rfl, ⟨?_, hL.2.1, fun k x hk => ?_⟩, FR_cp (FR_u FR_refl (by omega) (by omega)) (by omega) (by omega)⟩
  · rw [← hL.1]; unfold jx_cp; rw [if_neg (by omega), jx_u_s, Int32.ofInt_toInt]
  · have h9 : k < L.length := (List.getElem?_eq_some_iff.mp hk).1
    have h8 := hL.2.1
    rw [← hL.2.2 k x hk]
    unfold jx_cp
    rw [if_pos (by refine ⟨rfl, ?_, ?_⟩ <;> omega), jx_u_a _ _ _ _ (by omega)]
    congr 2
    omega
/-- GrievingCamels$Row.putFirst -/
theorem cz_70 {V : jx_V} (hV : V.1.stackTraces = false) {X : jx_X} {R : jx_R} {I : jx_I} {a0 : Nat} {a1 : Int} {x : Nat} {L : List Nat}
    (hr : BX X R a0 TRow) (hL : RW I a0 L) (hl : L.length < 12) (h1 : a1 = (x : Int)) (hx : x < 2147483648)
    {QE : String → jx_I → Prop} : jc V 1 70 (0, 0) [.ref a0, jy a1] X I R (fun rv I' => rv = none ∧ RW I' a0 (x :: L) ∧ FR a0 (a0 + 2) I I') QE := by
  refine wm_70 hV (by omega)  (fun J17 hJJ => ?_)
  have hJ17 := hJJ
  have hm := hL.1
  unfold wz_70
  refine ⟨s_Row_0 hr, _, r_Row_0_0 hr, _, ⟨s_Row_1 hr, by decide⟩, ?_⟩
  refine ⟨fun hq1 => ?_, fun hq1 => ?_⟩
  · omega
  · have L17 : ∀ (n17 : Nat) (l2 : Int) (K : jx_I), n17 = l2.toNat → (∃ i : Nat, l2 = i ∧ i ≤ L.length ∧ K a0 = I a0 ∧ (∀ k, k ≤ i → K (a0 + 1) k = I (a0 + 1) k) ∧ (∀ k, i < k → k ≤ L.length → K (a0 + 1) k = I (a0 + 1) (k - 1)) ∧ FR a0 (a0 + 2) I K) → J17 l2 K := by
      intro n17
      induction n17 using Nat.strongRecOn with
      | ind n17 ih17 =>
      intro l2 K hn17 hI17
      obtain ⟨i, rfl, hi, h0, h2, h3, hF⟩ := hI17
      refine hJ17 _ _ ?_
      unfold wz_70_17
      refine ⟨by omega, ?_⟩
      refine ⟨fun hq2 => ?_, fun hq2 => ?_⟩
      · refine ⟨s_Row_0 hr, _, r_Row_0_0 hr, _, ⟨s_Row_1 hr, by decide⟩, by omega, ?_⟩
        intro I13 e_I13; subst e_I13
        intro I14 e_I14; subst e_I14
        have hi0 : i = 0 := by omega
        subst hi0
        refine ⟨rfl, ⟨?_, by simp; omega, fun k y hk => ?_⟩, FR_u (FR_u hF (by omega) (by omega)) (by omega) (by omega)⟩
        · rw [jx_u_s, jx_u_a _ _ _ _ (by omega), h0, hm]; rw [jy_toInt (by omega)]; simp
        · rw [jx_u_a _ _ _ _ (by omega)]
          cases k with
          | zero => simp at hk; rw [show (0 : Int).toNat = 0 from rfl, jx_u_s, h1, hk]; exact jy_toInt (by omega)
          | succ k =>
            simp at hk
            have h9 : k < L.length := (List.getElem?_eq_some_iff.mp hk).1
            rw [show (0 : Int).toNat = 0 from rfl, jx_u_k _ _ _ _ (by omega), h3 _ (by omega) (by omega)]
            exact hL.2.2 k y hk
      · refine ⟨s_Row_0 hr, _, r_Row_0_0 hr, _, ⟨s_Row_1 hr, by decide⟩, by omega, by omega, ?_⟩
        intro I22 e_I22; subst e_I22
        exact ih17 _ (by omega) _ _ rfl (⟨i - 1, by omega, by omega, by rw [jx_u_r _ _ _ (by omega), h0], fun k hk => by rw [jx_u_k _ _ _ _ (by omega)]; exact h2 k (by omega), fun k hk hk2 => by
          rcases Nat.lt_or_ge i k with h | h
          · rw [jx_u_k _ _ _ _ (by omega)]; exact h3 k h hk2
          · have e : k = i := by omega
            subst e
            rw [Int.toNat_natCast, jx_u_s, Int32.ofInt_toInt, show ((k : Int) - 1).toNat = k - 1 by omega, h2 _ (by omega)], FR_u hF (by omega) (by omega)⟩)
    exact L17 _ _ _ rfl (⟨L.length, by omega, by omega, rfl, fun k _ => rfl, fun k h1 h2 => by omega, FR_refl⟩)
/-- GrievingCamels$Row.takeOut -/
theorem cz_71 {V : jx_V} (hV : V.1.stackTraces = false) {X : jx_X} {R : jx_R} {I : jx_I} {a0 : Nat} {a1 : Int} {x : Nat} {L : List Nat}
    (hr : BX X R a0 TRow) (hL : RW I a0 L) (h1 : a1 = (x : Int)) (hx : x < 2147483648)
    {QE : String → jx_I → Prop} : jc V 1 71 (0, 0) [.ref a0, jy a1] X I R (fun rv I' => rv = none ∧ RW I' a0 (L.filter (fun c => c != x)) ∧ FR a0 (a0 + 2) I I') QE := by
  refine wm_71 hV (by omega)  (fun J4 J37 hJJ => ?_)
  obtain ⟨hJ4, hJ37⟩ := hJJ
  have hm := hL.1; have hn := hL.2.1
  unfold wz_71
  have L4 : ∀ (n4 : Nat) (l2 : Int) (l3 : Int) (K : jx_I), n4 = ((L.length : Int) - l3).toNat → (∃ i : Nat, l3 = i ∧ i ≤ L.length ∧ l2 = (((L.take i).filter (fun c => c != x)).length : Int) ∧ ((L.take i).filter (fun c => c != x)).length ≤ i ∧ K a0 = I a0 ∧ (∀ k, i ≤ k → K (a0 + 1) k = I (a0 + 1) k) ∧ (∀ (k y : Nat), ((L.take i).filter (fun c => c != x))[k]? = some y → (K (a0 + 1) k).toInt = (y : Int)) ∧ FR a0 (a0 + 2) I K) → J4 l2 l3 K := by
    intro n4
    induction n4 using Nat.strongRecOn with
    | ind n4 ih4 =>
    intro l2 l3 K hn4 hI4
    obtain ⟨i, rfl, hi, rfl, hji, h0, h2, h3, hF⟩ := hI4
    have hK : (K a0 1).toInt = L.length := by rw [h0, hm]
    refine hJ4 _ _ _ ?_
    unfold wz_71_4
    refine ⟨s_Row_0 hr, by omega, ?_⟩
    refine ⟨fun hq1 => ?_, fun hq1 => ?_⟩
    · intro I3 e_I3; subst e_I3
      have e : L.take i = L := List.take_of_length_le (by omega)
      rw [e] at h3 hji ⊢
      refine ⟨rfl, ⟨by rw [jx_u_s]; exact jy_toInt (by omega), by omega, fun k z hz => ?_⟩, FR_u hF (by omega) (by omega)⟩
      rw [jx_u_a _ _ _ _ (by omega)]
      exact h3 k z hz
    · obtain ⟨y, hy, hv⟩ := RW_get hL (i := i) (by omega)
      have hv2 : (K (a0 + 1) i).toInt = (y : Int) := by rw [h2 i (by omega), hv]
      refine ⟨_, r_Row_0_0 hr, _, ⟨s_Row_1 hr, by decide⟩, by omega, ?_⟩
      refine ⟨fun hq2 => ?_, fun hq2 => ?_⟩
      · rw [Int.toNat_natCast, hv2, h1] at hq2
        have hyx : y = x := by omega
        exact ih4 _ (by omega) _ _ _ rfl (⟨i + 1, by omega, by omega, by rw [ls_last hy, List.filter_append]; simp [hyx], by rw [ls_last hy, List.filter_append]; simp [hyx]; omega, h0, fun k hk => h2 k (by omega), fun k z hz => h3 k z (by rw [ls_last hy, List.filter_append] at hz; simpa [hyx] using hz), hF⟩)
      · rw [Int.toNat_natCast, hv2, h1] at hq2
        have hyx : y ≠ x := by omega
        refine ⟨by omega, by omega, ?_⟩
        intro I11 e_I11; subst e_I11
        refine hJ37 _ _ _ ?_
        unfold wz_71_37
        exact ih4 _ (by omega) _ _ _ rfl (⟨i + 1, by omega, by omega, by rw [ls_last hy, List.filter_append]; simp [hyx], by rw [ls_last hy, List.filter_append]; simp [hyx]; omega, by rw [jx_u_r _ _ _ (by omega), h0], fun k hk => by rw [jx_u_k _ _ _ _ (by omega)]; exact h2 k (by omega), fun k z hz => by
          rw [ls_last hy, List.filter_append] at hz
          have hz : ((L.take i).filter (fun c => c != x) ++ [y])[k]? = some z := by simpa [hyx] using hz
          rw [Int.toNat_natCast, Int.toNat_natCast, hv2]
          rcases Nat.lt_trichotomy k ((L.take i).filter (fun c => c != x)).length with hc | hc | hc
          · rw [List.getElem?_append_left hc] at hz
            rw [jx_u_k _ _ _ _ (by omega)]
            exact h3 k z hz
          · rw [hc] at hz ⊢
            simp at hz
            rw [jx_u_s, hz]
            have := hL.2.2 i y hy
            rw [← hz, ← this]
            simp
          · rw [List.getElem?_append_right (by omega), List.getElem?_eq_none (by simp; omega)] at hz
            exact absurd hz (by simp), FR_u hF (by omega) (by omega)⟩)
  exact L4 _ _ _ _ rfl (⟨0, by omega, by omega, by simp, by simp, rfl, fun k _ => rfl, fun k y h => by simp at h, FR_refl⟩)
