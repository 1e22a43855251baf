/-! ===== the next order of a row ===== -/
/-- each no less than the next one -/
def dsc : List Nat → Prop
  | [] => True
  | [_] => True
  | x :: y :: t => y ≤ x ∧ dsc (y :: t)
theorem dsc_le : ∀ (t : List Nat) (x : Nat), dsc (x :: t) → ∀ z ∈ t, z ≤ x
  | [], _, _ => fun z hz => by cases hz
  | y :: t, x, h => fun z hz => by
    rcases List.mem_cons.mp hz with e | e
    · rw [e]; exact h.1
    · exact Nat.le_trans (dsc_le t y h.2 z e) h.1
theorem dsc_t {x : Nat} : ∀ {t : List Nat}, dsc (x :: t) → dsc t
  | [], _ => trivial
  | _ :: _, h => h.2
/-- t with its last one above x (if any) made x, and that one -/
def lst (x : Nat) : List Nat → Option (Nat × List Nat)
  | [] => none
  | y :: t => match lst x t with
    | some (z, t') => some (z, y :: t')
    | none => if x < y then some (y, x :: t) else none
/-- the next order of a row -/
def nxp : List Nat → Option (List Nat)
  | [] => none
  | x :: t => match nxp t with
    | some t' => some (x :: t')
    | none => match lst x t with
      | some (y, t') => some (y :: t'.reverse)
      | none => none
theorem lst_no {x : Nat} : ∀ {t : List Nat}, (∀ z ∈ t, z ≤ x) → lst x t = none
  | [], _ => rfl
  | y :: t, h => by
    unfold lst
    rw [lst_no (fun z hz => h z (List.mem_cons_of_mem _ hz))]
    exact if_neg (by have := h y (by simp); omega)
theorem lst_at {x y : Nat} {B2 : List Nat} (hxy : x < y) (h : ∀ z ∈ B2, z ≤ x) : ∀ B1 : List Nat, lst x (B1 ++ y :: B2) = some (y, B1 ++ x :: B2)
  | [] => by
    show lst x (y :: B2) = _
    unfold lst
    rw [lst_no h]
    exact if_pos hxy
  | b :: B1 => by
    show lst x (b :: (B1 ++ y :: B2)) = _
    unfold lst
    rw [lst_at hxy h B1]
    rfl
theorem nxp_ds : ∀ {t : List Nat}, dsc t → nxp t = none
  | [], _ => rfl
  | x :: t, h => by
    unfold nxp
    rw [nxp_ds (dsc_t h), lst_no (dsc_le t x h)]
theorem nxp_at {x y : Nat} {B1 B2 : List Nat} (hd : dsc (B1 ++ y :: B2)) (hxy : x < y) (h : ∀ z ∈ B2, z ≤ x) : ∀ A : List Nat, nxp (A ++ x :: (B1 ++ y :: B2)) = some (A ++ y :: (B1 ++ x :: B2).reverse)
  | [] => by
    show nxp (x :: (B1 ++ y :: B2)) = _
    unfold nxp
    rw [nxp_ds hd, lst_at hxy h B1]
    rfl
  | a :: A => by
    show nxp (a :: (A ++ x :: (B1 ++ y :: B2))) = _
    unfold nxp
    rw [nxp_at hd hxy h A]
    rfl
theorem ls_at {L A B : List Nat} {x : Nat} (h : L = A ++ x :: B) : L[A.length]? = some x := by rw [h]; simp
theorem ls_drop {L : List Nat} {k : Nat} (h : k < L.length) : ∃ x, L.drop k = x :: L.drop (k + 1) ∧ L = L.take k ++ x :: L.drop (k + 1) ∧ L[k]? = some x := by
  refine ⟨L[k], (List.drop_eq_getElem_cons h), ?_, List.getElem?_eq_getElem h⟩
  rw [← List.drop_eq_getElem_cons h, List.take_append_drop]
/-- two of a row change places -/
theorem RW_sw {I I' : jx_I} {a x y : Nat} {A M D : List Nat} (h : RW I a (A ++ x :: (M ++ y :: D))) (e0 : I' a = I a) (e1 : (I' (a + 1) A.length).toInt = (y : Int)) (e2 : (I' (a + 1) (A.length + 1 + M.length)).toInt = (x : Int)) (e3 : ∀ k, k ≠ A.length → k ≠ A.length + 1 + M.length → I' (a + 1) k = I (a + 1) k) : RW I' a (A ++ y :: (M ++ x :: D)) := by
  have hl : (A ++ x :: (M ++ y :: D)).length = A.length + 1 + M.length + 1 + D.length := by simp; omega
  have hl2 : (A ++ y :: (M ++ x :: D)).length = A.length + 1 + M.length + 1 + D.length := by simp; omega
  refine ⟨by rw [e0, hl2, ← hl]; exact h.1, by rw [hl2, ← hl]; exact h.2.1, ?_⟩
  intro k z hk
  by_cases c1 : k = A.length
  · subst c1
    have hz : y = z := by simpa using hk
    rw [e1, hz]
  · by_cases c2 : k = A.length + 1 + M.length
    · subst c2
      rw [List.getElem?_append_right (by omega), show A.length + 1 + M.length - A.length = M.length + 1 by omega] at hk
      have hz : x = z := by simpa using hk
      rw [e2, hz]
    · rw [e3 k c1 c2]
      refine h.2.2 k z ?_
      rw [← hk]
      rcases Nat.lt_or_ge k A.length with c3 | c3
      · rw [List.getElem?_append_left c3, List.getElem?_append_left c3]
      · rw [List.getElem?_append_right c3, List.getElem?_append_right c3]
        obtain ⟨m, hm⟩ : ∃ m, k - A.length = m + 1 := ⟨k - A.length - 1, by omega⟩
        rw [hm, List.getElem?_cons_succ, List.getElem?_cons_succ]
        rcases Nat.lt_or_ge m M.length with c4 | c4
        · rw [List.getElem?_append_left c4, List.getElem?_append_left c4]
        · rw [List.getElem?_append_right c4, List.getElem?_append_right c4]
          obtain ⟨m2, hm2⟩ : ∃ m2, m - M.length = m2 + 1 := ⟨m - M.length - 1, by omega⟩
          rw [hm2, List.getElem?_cons_succ, List.getElem?_cons_succ]
/-- GrievingCamels$Row.swap -/
theorem cz_83 {V : jx_V} (hV : V.1.stackTraces = false) {X : jx_X} {R : jx_R} {I : jx_I} {a0 : Nat} {a1 : Int} {a2 : Int} {A M D : List Nat} {x y : Nat}
    (hr : BX X R a0 TRow) (hL : RW I a0 (A ++ x :: (M ++ y :: D))) (h1 : a1 = (A.length : Int)) (h2 : a2 = ((A.length + 1 + M.length : Nat) : Int))
    {QE : String → jx_I → Prop} : jc V 1 83 (0, 0) [.ref a0, jy a1, jy a2] X I R (fun rv I' => rv = none ∧ RW I' a0 (A ++ y :: (M ++ x :: D)) ∧ FR a0 (a0 + 2) I I') QE := by
  have hl : (A ++ x :: (M ++ y :: D)).length = A.length + 1 + M.length + 1 + D.length := by simp; omega
  have h12 := hL.2.1
  have hx := hL.2.2 A.length x (by simp)
  have hy := hL.2.2 (A.length + 1 + M.length) y (by rw [List.getElem?_append_right (by omega), show A.length + 1 + M.length - A.length = M.length + 1 by omega]; simp)
  have hxr := jy_rng (I (a0 + 1) A.length)
  have hyr := jy_rng (I (a0 + 1) (A.length + 1 + M.length))
  subst h1
  subst h2
  refine wm_83 hV (by omega) (by omega)  ?_
  unfold wz_83
  refine ⟨s_Row_0 hr, _, r_Row_0_0 hr, _, ⟨s_Row_1 hr, by decide⟩, ?_⟩
  try simp only [-eq_self, Int.toNat_natCast, hx, hy]
  refine ⟨by omega, by omega, by omega, ?_⟩
  intro I9 e_I9; subst e_I9
  refine ⟨by omega, ?_⟩
  intro I11 e_I11; subst e_I11
  exact ⟨rfl, RW_sw hL (by rw [jx_u_r _ _ _ (by omega), jx_u_r _ _ _ (by omega)]) (by rw [jx_u_k _ _ _ _ (by omega), jx_u_s]; exact jy_toInt (by omega)) (by rw [jx_u_s]; exact jy_toInt (by omega)) (fun k h1 h2 => by rw [jx_u_k _ _ _ _ h2, jx_u_k _ _ _ _ h1]), FR_u (FR_u FR_refl (by omega) (by omega)) (by omega) (by omega)⟩
theorem ls_2 : ∀ {M : List Nat}, 2 ≤ M.length → ∃ a M' b, M = a :: (M' ++ [b])
  | [], h => by simp at h
  | a :: t, h => by
    have ht : t ≠ [] := fun e => by rw [e] at h; simp at h
    exact ⟨a, t.dropLast, t.getLast ht, by rw [List.dropLast_concat_getLast ht]⟩
theorem rev_1 : ∀ {M : List Nat}, M.length ≤ 1 → M.reverse = M
  | [], _ => rfl
  | [_], _ => rfl
  | _ :: _ :: _, h => by simp only [List.length_cons] at h; omega
/-- GrievingCamels$Row.turnToNextOrder -/
theorem cz_82 {V : jx_V} (hV : V.1.stackTraces = false) {X : jx_X} {R : jx_R} {I : jx_I} {a0 : Nat} {L : List Nat}
    (hr : BX X R a0 TRow) (hL : RW I a0 L) (hne : L ≠ [])
    {QE : String → jx_I → Prop} : jc V 2 82 (0, 0) [.ref a0] X I R (fun rv I' => ∃ r : Int, rv = some (jy r) ∧ ((r = 0 ∧ nxp L = none ∧ I' = I) ∨ (r = 1 ∧ ∃ L', nxp L = some L' ∧ RW I' a0 L' ∧ FR a0 (a0 + 2) I I'))) QE := by
  have hm := hL.1; have h12 := hL.2.1
  have hlp : 0 < L.length := List.length_pos_iff.mpr hne
  refine wm_82 hV   (fun J7 J47 J93 hJJ => ?_)
  obtain ⟨hJ7, hJ47, hJ93⟩ := hJJ
  have L93 : ∀ (n93 : Nat) (l3 : Int) (l4 : Int) (K3 : jx_I), n93 = (l3 - l4).toNat → (∃ (A U M W : List Nat) (z : Nat), nxp L = some (A ++ z :: (U ++ M ++ W).reverse) ∧ U.length = W.length ∧ l4 = ((A.length + 1 + U.length : Nat) : Int) ∧ l3 = (L.length : Int) - 1 - (U.length : Int) ∧ L.length = A.length + 1 + (U.length + M.length + W.length) ∧ RW K3 a0 (A ++ z :: (W.reverse ++ M ++ U.reverse)) ∧ FR a0 (a0 + 2) I K3) → J93 l3 l4 K3 := by
    intro n93
    induction n93 using Nat.strongRecOn with
    | ind n93 ih93 =>
    intro l3 l4 K3 hn93 hI93
    obtain ⟨A, U, M, W, z, hnx, hUW, rfl, rfl, hTl, hRW, hF⟩ := hI93
    refine hJ93 _ _ _ ?_
    unfold wz_82_93
    refine ⟨by omega, by omega, ?_⟩
    refine ⟨fun hq1 => ?_, fun hq1 => ?_⟩
    · refine ⟨1, rfl, Or.inr ⟨rfl, _, hnx, ?_, hF⟩⟩
      have h1 : (U ++ M ++ W).reverse = W.reverse ++ M ++ U.reverse := by rw [List.reverse_append, List.reverse_append, rev_1 (M := M) (by omega), List.append_assoc]
      rw [h1]; exact hRW
    · obtain ⟨a, M2, b, rfl⟩ := ls_2 (M := M) (by omega)
      simp only [List.length_cons, List.length_append, List.length_nil] at hTl
      refine ⟨s_Row_0 hr, ?_⟩
      refine ⟨_, cz_83 (A := A ++ z :: W.reverse) (M := M2) (D := U.reverse) (x := a) (y := b) hV hr (by simpa using hRW) (by simp; omega) (by simp; omega), ?_⟩
      rintro _ I34 ⟨rfl, hR34, hF34⟩
      refine ⟨rfl, ?_⟩
      exact ih93 _ (by omega) _ _ _ rfl (⟨A, U ++ [a], M2, b :: W, z, by rw [hnx]; simp, by simp; omega, by simp; omega, by simp; omega, by simp; omega, by simpa using hR34, FR_trans hF hF34⟩)
  unfold wz_82
  refine ⟨s_Row_0 hr, ?_⟩
  have L7 : ∀ (n7 : Nat) (l1 : Int) (K : jx_I), n7 = (l1 + 1).toNat → (∃ k : Nat, l1 = (k : Int) - 1 ∧ k < L.length ∧ dsc (L.drop k) ∧ K = I) → J7 l1 K := by
    intro n7
    induction n7 using Nat.strongRecOn with
    | ind n7 ih7 =>
    intro l1 K hn7 hI7
    obtain ⟨k, rfl, hk, hds, hKI⟩ := hI7
    replace hKI := hKI.symm
    subst hKI
    refine hJ7 _ _ ?_
    unfold wz_82_7
    refine ⟨by omega, ?_⟩
    refine ⟨fun hq2 => ?_, fun hq2 => ?_⟩
    · refine ⟨fun hq3 => ?_, fun hq3 => ?_⟩
      · omega
      · have hk0 : k = 0 := by omega
        subst hk0
        rw [List.drop_zero] at hds
        exact ⟨0, rfl, Or.inl ⟨rfl, nxp_ds hds, rfl⟩⟩
    · obtain ⟨x, hdr, hsp, hgx⟩ := ls_drop (L := L) (k := k - 1) (by omega)
      obtain ⟨y, hdy, _, hgy⟩ := ls_drop (L := L) (k := k) hk
      rw [show k - 1 + 1 = k by omega] at hdr hsp
      have hxv := hL.2.2 (k - 1) x hgx
      have hyv := hL.2.2 k y hgy
      refine ⟨s_Row_0 hr, _, r_Row_0_0 hr, _, ⟨s_Row_1 hr, by decide⟩, ?_⟩
      try simp only [-eq_self, show ((k : Int) - 1).toNat = k - 1 by omega, show ((k : Int) - 1 + 1).toNat = k by omega, hxv, hyv]
      refine ⟨by omega, by omega, ?_⟩
      refine ⟨fun hq4 => ?_, fun hq4 => ?_⟩
      · obtain ⟨A, hAe⟩ : ∃ A, A = L.take (k - 1) := ⟨_, rfl⟩
        have hAl : A.length = k - 1 := by rw [hAe, List.length_take]; omega
        have hdn : L.drop k ≠ [] := by rw [hdy]; simp
        have hxy : x < y := by omega
        refine ⟨fun hq5 => ?_, fun hq5 => ?_⟩
        · have L47 : ∀ (n47 : Nat) (l1 : Int) (l2 : Int) (K2 : jx_I), n47 = l2.toNat → (∃ (B1 : List Nat) (z : Nat) (B2 : List Nat), l1 = (A.length : Int) ∧ l2 = ((A.length + 1 + B1.length : Nat) : Int) ∧ L = A ++ x :: (B1 ++ z :: B2) ∧ dsc (B1 ++ z :: B2) ∧ (∀ w ∈ B2, w ≤ x) ∧ B1 ++ z :: B2 = y :: L.drop (k + 1) ∧ K2 = I) → J47 l1 l2 K2 := by
            intro n47
            induction n47 using Nat.strongRecOn with
            | ind n47 ih47 =>
            intro l1 l2 K2 hn47 hI47
            obtain ⟨B1, z, B2, rfl, rfl, hLe, hdB, hB2, hBy, hKI⟩ := hI47
            replace hKI := hKI.symm
            subst hKI
            have hll : L.length = A.length + 1 + B1.length + 1 + B2.length := by
              have := congrArg List.length hLe
              simp only [List.length_append, List.length_cons] at this
              omega
            have hl16 : (A ++ z :: (B1 ++ x :: B2)).length = L.length := by simp; omega
            have hxv := hL.2.2 A.length x (ls_at hLe)
            have hzv := hL.2.2 (A.length + 1 + B1.length) z (by rw [hLe, List.getElem?_append_right (by omega), show A.length + 1 + B1.length - A.length = B1.length + 1 by omega]; simp)
            have hLz : RW I a0 (A ++ x :: (B1 ++ z :: B2)) := hLe ▸ hL
            refine hJ47 _ _ _ ?_
            unfold wz_82_47
            refine ⟨by omega, by omega, ?_⟩
            refine ⟨fun hq6 => ?_, fun hq6 => ?_⟩
            · have hb0 : B1 = [] := List.eq_nil_of_length_eq_zero (by omega)
              have hxz : x < z := by rw [hb0] at hBy; have := (List.cons.inj hBy).1; omega
              have hnx : nxp L = some (A ++ z :: (B1 ++ x :: B2).reverse) := by rw [hLe]; exact nxp_at hdB hxz hB2 A
              refine ⟨s_Row_0 hr, ?_⟩
              refine ⟨_, cz_83 (A := A) (M := B1) (D := B2) (x := x) (y := z) hV hr hLz rfl rfl, ?_⟩
              rintro _ I16 ⟨rfl, hR16, hF16⟩
              refine ⟨rfl, ?_⟩
              exact L93 _ _ _ _ rfl (⟨A, [], B1 ++ x :: B2, [], z, by rw [List.nil_append, List.append_nil]; exact hnx, rfl, by simp, by rw [hR16.1, hl16]; simp, by simp; omega, by simpa using hR16, hF16⟩)
            · refine ⟨s_Row_0 hr, _, r_Row_0_0 hr, _, ⟨s_Row_1 hr, by decide⟩, ?_⟩
              try simp only [-eq_self, Int.toNat_natCast, hxv, hzv]
              refine ⟨by omega, by omega, ?_⟩
              refine ⟨fun hq7 => ?_, fun hq7 => ?_⟩
              · have hxz : x < z := by omega
                have hnx : nxp L = some (A ++ z :: (B1 ++ x :: B2).reverse) := by rw [hLe]; exact nxp_at hdB hxz hB2 A
                refine ⟨_, cz_83 (A := A) (M := B1) (D := B2) (x := x) (y := z) hV hr hLz rfl rfl, ?_⟩
                rintro _ I27 ⟨rfl, hR16, hF16⟩
                refine ⟨rfl, ?_⟩
                exact L93 _ _ _ _ rfl (⟨A, [], B1 ++ x :: B2, [], z, by rw [List.nil_append, List.append_nil]; exact hnx, rfl, by simp, by rw [hR16.1, hl16]; simp, by simp; omega, by simpa using hR16, hF16⟩)
              · have hzx : z ≤ x := by omega
                have hb1 : B1 ≠ [] := fun e => by rw [e] at hBy; have := (List.cons.inj hBy).1; omega
                have hBe := List.dropLast_concat_getLast hb1
                have hB1p : 0 < B1.length := List.length_pos_iff.mpr hb1
                have hLB : B1.dropLast ++ B1.getLast hb1 :: z :: B2 = B1 ++ z :: B2 := by rw [← List.singleton_append, ← List.append_assoc, hBe]
                exact ih47 _ (by omega) _ _ _ rfl (⟨B1.dropLast, B1.getLast hb1, z :: B2, rfl, by rw [List.length_dropLast]; omega, by rw [hLB]; exact hLe, by rw [hLB]; exact hdB, fun w hw => by
                  rcases List.mem_cons.mp hw with e | e
                  · rw [e]; omega
                  · exact hB2 w e, by rw [hLB]; exact hBy, rfl⟩)
          exact L47 _ _ _ _ rfl (⟨(L.drop k).dropLast, (L.drop k).getLast hdn, [], by omega, by rw [List.length_dropLast, List.length_drop]; omega, by rw [hAe, List.dropLast_concat_getLast hdn]; exact hsp, by rw [List.dropLast_concat_getLast hdn]; exact hds, (fun w hw => by cases hw), by rw [List.dropLast_concat_getLast hdn]; exact hdy, rfl⟩)
        · omega
      · exact ih7 _ (by omega) _ _ rfl (⟨k - 1, by omega, by omega, by rw [hdr, hdy]; rw [hdy] at hds; exact ⟨by omega, hds⟩, rfl⟩)
  exact L7 _ _ _ rfl (⟨L.length - 1, by omega, by omega, by
    obtain ⟨x, e, _⟩ := ls_drop (L := L) (k := L.length - 1) (by omega)
    rw [e, show L.length - 1 + 1 = L.length by omega, List.drop_length]; trivial, rfl⟩)
