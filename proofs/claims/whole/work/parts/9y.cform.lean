/-! ===== the class reads a law ===== -/
/-- only the law's codes and the Tape change -/
def FLw (lw tp : Nat) (I I' : jx_I) : Prop := ∀ q, q ≠ tp → (q < lw ∨ lw + 2 ≤ q) → I' q = I q
theorem FLw_t {lw tp : Nat} {I I' : jx_I} (h : FR tp (tp + 1) I I') : FLw lw tp I I' := fun q a _ => h q (by omega)
theorem FLw_l {lw tp : Nat} {I I' : jx_I} (h : FR lw (lw + 2) I I') : FLw lw tp I I' := fun q _ b => h q (by omega)
theorem FLw_trans {lw tp : Nat} {I I1 I2 : jx_I} (h : FLw lw tp I I1) (h2 : FLw lw tp I1 I2) : FLw lw tp I I2 := fun q a b => (h2 q a b).trans (h q a b)
theorem LW_t {lw tp : Nat} {I I' : jx_I} {L : List Int} (h : LW I lw L) (hf : FR tp (tp + 1) I I') (hd : tp + 2 ≤ lw ∨ lw + 4 ≤ tp) : LW I' lw L := by
  unfold LW
  rw [hf lw (by omega), hf (lw + 1) (by omega)]
  exact h
theorem CST_l {lw tp : Nat} {I I' : jx_I} {T : List Int} {fd : Int} {x : PX Nat} (h : CST I tp T fd x) (hf : FR lw (lw + 2) I I') (hd : tp + 2 ≤ lw ∨ lw + 4 ≤ tp) : CST I' tp T fd x := by
  cases x with
  | ok s => obtain ⟨h1, a, b, c, h2⟩ := h; exact ⟨h1, a, b, c, TX_of h2 (hf _ (by omega)) (hf _ (by omega))⟩
  | error e => obtain ⟨h1, p, a, b, c, h2⟩ := h; exact ⟨h1, p, a, b, c, TX_of h2 (hf _ (by omega)) (hf _ (by omega))⟩
/-- what readUnit, readProduct, readSum answer -/
def CLA (lw tp : Nat) (T : List Int) (fd : Int) (L : List Int) (I : jx_I) (Y : PF) (rv : Option Value) (I' : jx_I) : Prop := (∃ r : Int, rv = some (jy r) ∧ ((r = 1 ∧ ∃ w, Y = .ok w ∧ CST I' tp T fd (.ok w.2) ∧ LW I' lw (L ++ w.1)) ∨ (r = 0 ∧ ∃ e, Y = .error e ∧ CST I' tp T fd (.error e)))) ∧ FLw lw tp I I'
def G48 (V : jx_V) (X : jx_X) (R : jx_R) (lw tp : Nat) (T : List Int) (fd : Int) (y : Nat) : Prop := ∀ (d : Nat) (s : Nat) (L : List Int) (a2 : Int) (I : jx_I) (QE : String → jx_I → Prop), CST I tp T fd (.ok s) → LW I lw L → L.length ≤ s → a2 = ((6 - y : Nat) : Int) → 7 + 3 * y ≤ d → jc V d 48 (0, 0) [.ref lw, .ref tp, jy a2] X I R (CLA lw tp T fd L I (lUnit T (lRec T y) s)) QE
def G47 (V : jx_V) (X : jx_X) (R : jx_R) (lw tp : Nat) (T : List Int) (fd : Int) (y : Nat) : Prop := ∀ (d : Nat) (s : Nat) (L : List Int) (a2 : Int) (I : jx_I) (QE : String → jx_I → Prop), CST I tp T fd (.ok s) → LW I lw L → L.length ≤ s → a2 = ((6 - y : Nat) : Int) → 8 + 3 * y ≤ d → jc V d 47 (0, 0) [.ref lw, .ref tp, jy a2] X I R (CLA lw tp T fd L I (lPro T (lRec T y) s)) QE
def G46 (V : jx_V) (X : jx_X) (R : jx_R) (lw tp : Nat) (T : List Int) (fd : Int) (y : Nat) : Prop := ∀ (d : Nat) (s : Nat) (L : List Int) (a2 : Int) (I : jx_I) (QE : String → jx_I → Prop), CST I tp T fd (.ok s) → LW I lw L → L.length ≤ s → a2 = ((6 - y : Nat) : Int) → 9 + 3 * y ≤ d → jc V d 46 (0, 0) [.ref lw, .ref tp, jy a2] X I R (CLA lw tp T fd L I (lS T y s)) QE
/-- GrievingCamels$Law.valueOfWord -/
theorem cz_49 {V : jx_V} (hV : V.1.stackTraces = false) {X : jx_X} {R : jx_R} {I : jx_I} {a0 : Nat} {a1 : Nat} {T : List Int} {fd p nf fk fa : Int} {w : Nat}
    (ht : BX X R a1 TTape) (hT : TX I a1 T fd p (w : Int) (w + (wrd T w).length : Nat) nf fk fa) (hw : w ≤ T.length)
    {QE : String → jx_I → Prop} : jc V 6 49 (0, 0) [.ref a0, .ref a1] X I R (fun rv I' => rv = some (jy (kul (wrd T w))) ∧ I' = I) QE := by
  refine wm_49 hV   ?_
  unfold wz_49
  refine ⟨s_Tape_0 ht, ?_⟩
  refine ⟨_, cz_117 hV ht hT hw (by omega), ?_⟩
  rintro _ I4 ⟨rfl, e9⟩; replace e9 := e9.symm; subst e9
  refine ⟨_, rfl, ?_⟩
  refine ⟨by omega, ?_⟩
  refine ⟨fun hq1 => ?_, fun hq1 => ?_⟩
  · have c8 := bi_f hq1
    refine ⟨_, cz_117 hV ht hT hw (by omega), ?_⟩
    rintro _ I9 ⟨rfl, e9⟩; replace e9 := e9.symm; subst e9
    refine ⟨_, rfl, ?_⟩
    refine ⟨by omega, ?_⟩
    refine ⟨fun hq2 => ?_, fun hq2 => ?_⟩
    · have c9 := bi_f hq2
      refine ⟨_, cz_117 hV ht hT hw (by omega), ?_⟩
      rintro _ I14 ⟨rfl, e9⟩; replace e9 := e9.symm; subst e9
      refine ⟨_, rfl, ?_⟩
      refine ⟨by omega, ?_⟩
      refine ⟨fun hq3 => ?_, fun hq3 => ?_⟩
      · have c10 := bi_f hq3
        refine ⟨_, cz_117 hV ht hT hw (by omega), ?_⟩
        rintro _ I19 ⟨rfl, e9⟩; replace e9 := e9.symm; subst e9
        refine ⟨_, rfl, ?_⟩
        refine ⟨by omega, ?_⟩
        refine ⟨fun hq4 => ?_, fun hq4 => ?_⟩
        · have c11 := bi_f hq4
          refine ⟨_, cz_117 hV ht hT hw (by omega), ?_⟩
          rintro _ I24 ⟨rfl, e9⟩; replace e9 := e9.symm; subst e9
          refine ⟨_, rfl, ?_⟩
          refine ⟨by omega, ?_⟩
          refine ⟨fun hq5 => ?_, fun hq5 => ?_⟩
          · have c12 := bi_f hq5
            exact ⟨by unfold kul; rw [if_neg c8, if_neg c9, if_neg c10, if_neg c11, if_neg c12], rfl⟩
          · have c12 := bi_t hq5
            exact ⟨by unfold kul; rw [if_neg c8, if_neg c9, if_neg c10, if_neg c11, if_pos c12], rfl⟩
        · have c11 := bi_t hq4
          exact ⟨by unfold kul; rw [if_neg c8, if_neg c9, if_neg c10, if_pos c11], rfl⟩
      · have c10 := bi_t hq3
        exact ⟨by unfold kul; rw [if_neg c8, if_neg c9, if_pos c10], rfl⟩
    · have c9 := bi_t hq2
      exact ⟨by unfold kul; rw [if_neg c8, if_pos c9], rfl⟩
  · have c8 := bi_t hq1
    exact ⟨by unfold kul; rw [if_pos c8], rfl⟩
/-- GrievingCamels$Law.readUnit -/
theorem cz_48s {V : jx_V} (hV : V.1.stackTraces = false) {d : Nat} {X : jx_X} {R : jx_R} {I : jx_I} {a0 : Nat} {a1 : Nat} {a2 : Int} {T : List Int} {fd : Int} {s y : Nat} {L : List Int}
    (hw : BX X R a0 TLaw) (ht : BX X R a1 TTape) (hc : CST I a1 T fd (.ok s)) (hL : LW I a0 L) (hl : L.length ≤ s) (h2 : a2 = ((6 - y : Nat) : Int)) (hy : y ≤ 6) (hdy : a1 + 2 ≤ a0 ∨ a0 + 4 ≤ a1) (hd : 7 + 3 * y ≤ d) (ih : ∀ z, y = z + 1 → G46 V X R a0 a1 T fd z)
    {QE : String → jx_I → Prop} : jc V d 48 (0, 0) [.ref a0, .ref a1, jy a2] X I R (CLA a0 a1 T fd L I (lUnit T (lRec T y) s)) QE := by
  subst h2
  obtain ⟨hAT, wf, we, nf, hT⟩ := id hc
  have hsl := hAT.1
  have h6 := hT.2.1
  have hwl := wrd_le hsl
  have hkr := kul_r (wrd T s)
  refine wm_48 hV (by omega)  ?_
  unfold wz_48
  refine ⟨s_Tape_0 ht, ?_⟩
  refine ⟨by omega, _, cz_111 hV ht hT hsl (by omega), ?_⟩
  rintro _ I5 ⟨rfl, e9⟩; replace e9 := e9.symm; subst e9
  refine ⟨_, rfl, ?_⟩
  refine ⟨by omega, ?_⟩
  refine ⟨fun hq1 => ?_, fun hq1 => ?_⟩
  · have c40 := bi_f hq1
    refine ⟨by omega, _, cz_114 hV ht hT hsl, ?_⟩
    rintro _ I11 ⟨rfl, e9⟩; replace e9 := e9.symm; subst e9
    refine ⟨_, rfl, ?_⟩
    refine ⟨by omega, ?_⟩
    refine ⟨fun hq2 => ?_, fun hq2 => ?_⟩
    · have cd := bi_f hq2
      refine ⟨by omega, _, cz_116 hV ht hT hsl, ?_⟩
      rintro _ I17 ⟨rfl, hT17, hF17⟩
      refine ⟨rfl, ?_⟩
      have hL17 := LW_t hL hF17 hdy
      refine ⟨s_Law_0 hw, ?_⟩
      refine ⟨by omega, _, cz_49 hV ht hT17 hsl, ?_⟩
      rintro _ I23 ⟨rfl, e9⟩; replace e9 := e9.symm; subst e9
      refine ⟨_, rfl, ?_⟩
      refine ⟨by omega, ?_⟩
      refine ⟨fun hq3 => ?_, fun hq3 => ?_⟩
      · have hl1 := (AT_s hwl).2
        have hl2 := (AT_s hwl).1.1
        refine ⟨by omega, _, cz_50 hV hw hL17 (by omega) (by omega), ?_⟩
        rintro _ I29 ⟨rfl, hL29, hF29⟩
        refine ⟨rfl, ?_⟩
        exact ⟨⟨_, rfl, Or.inl ⟨rfl, _, lUnit_w c40 (by omega), CST_l ⟨(AT_s hwl).1, _, _, _, hT17⟩ hF29 hdy, hL29⟩⟩, FLw_trans (FLw_t hF17) (FLw_l hF29)⟩
      · refine ⟨by omega, _, cz_108 hV ht hT17 (by omega), ?_⟩
        rintro _ I34 ⟨rfl, hT34, hF34⟩
        refine ⟨_, rfl, ?_⟩
        refine ⟨by omega, ?_⟩
        have hk1 : kul (wrd T s) = -1 := by omega
        exact ⟨⟨_, rfl, Or.inr ⟨rfl, _, by rw [lUnit_n c40 hk1, pNum_e1 (dig_0 cd)]; rfl, ⟨show (1 : Int) ≤ 1 by decide, show (1 : Int) ≤ 3 by decide⟩, _, _, _, _, hT34⟩⟩, FLw_trans (FLw_t hF17) (FLw_t hF34)⟩
    · have cd := bi_t hq2
      refine ⟨by omega, _, cz_118 hV ht hT hsl (by omega) (by omega), ?_⟩
      rintro _ I40 ⟨⟨r9, q9, k9, f9, rfl, hn9, hT40⟩, hF40⟩
      refine ⟨_, rfl, ?_⟩
      have hr41 : -1 ≤ r9 ∧ r9 ≤ 99 := by rcases NB_p hsl hn9 hT40 with ⟨_, _, _, h, h2⟩ | ⟨_, _, h, _⟩ <;> omega
      have hl9 := tat_in (T := T) (p := s) rfl (by omega)
      have hk1 : kul (wrd T s) = -1 := by rw [wrd_0 (by omega)]; decide +kernel
      refine ⟨s_Law_0 hw, ?_⟩
      refine ⟨by omega, _, cz_50 hV hw (LW_t hL hF40 hdy) (by omega) (by omega), ?_⟩
      rintro _ I46 ⟨rfl, hL46, hF46⟩
      refine ⟨rfl, ?_⟩
      refine ⟨by omega, ?_⟩
      refine ⟨fun hq4 => ?_, fun hq4 => ?_⟩
      · obtain ⟨e, h1, h2, h3⟩ := (NB_p hsl hn9 hT40).resolve_left (fun ⟨q, _, _, h, _⟩ => by omega)
        exact ⟨⟨_, rfl, Or.inr ⟨rfl, e, by rw [lUnit_n c40 hk1, h1]; rfl, CST_l h3 hF46 hdy⟩⟩, FLw_trans (FLw_t hF40) (FLw_l hF46)⟩
      · obtain ⟨q2, h1, h2, h3, h4⟩ := (NB_p hsl hn9 hT40).resolve_right (fun ⟨e, _, h, _⟩ => by omega)
        exact ⟨⟨_, rfl, Or.inl ⟨rfl, _, by rw [lUnit_n c40 hk1, h1]; rfl, CST_l h2 hF46 hdy, hL46⟩⟩, FLw_trans (FLw_t hF40) (FLw_l hF46)⟩
  · have c40 := bi_t hq1
    refine ⟨fun hq5 => ?_, fun hq5 => ?_⟩
    · obtain ⟨z, rfl⟩ : ∃ z, y = z + 1 := ⟨y - 1, by omega⟩
      refine ⟨by omega, _, cz_112 hV ht hT hsl (by omega), ?_⟩
      rintro _ I52 ⟨⟨r529, rfl, ho52⟩, hF52⟩
      refine ⟨_, rfl, ?_⟩
      refine ⟨by omega, ?_⟩
      refine ⟨fun hq6 => ?_, fun hq6 => ?_⟩
      · exfalso
        obtain ⟨_, h, _⟩ := ho52.resolve_left (fun k => by omega)
        exact h c40
      · obtain ⟨_, _, hT52⟩ := ho52.resolve_right (fun k => hq6 k.1)
        have hl40 := tat_in c40 (by decide)
        have hs1 := AT_s (T := T) (p := s + 1) (by omega)
        have hs12 := hs1.2
        refine ⟨s_Law_0 hw, ?_⟩
        refine ⟨_, by omega, _, ih z rfl (d - 1) (skB T (s + 1)) L _ _ _ ⟨hs1.1, _, _, _, hT52⟩ (LW_t hL hF52 hdy) (by omega) (by omega) (by omega), ?_⟩
        rintro _ I60 ⟨⟨r609, rfl, ho60⟩, hF60⟩
        refine ⟨_, rfl, ?_⟩
        refine ⟨by omega, ?_⟩
        refine ⟨fun hq7 => ?_, fun hq7 => ?_⟩
        · obtain ⟨_, e, h1, h2⟩ := ho60.resolve_left (fun k => by omega)
          exact ⟨⟨_, rfl, Or.inr ⟨rfl, e, by rw [lUnit_p c40]; show (lS T z (skB T (s + 1))).bind _ = _; rw [h1]; rfl, h2⟩⟩, FLw_trans (FLw_t hF52) hF60⟩
        · obtain ⟨_, w, hw1, hcw, hLw⟩ := ho60.resolve_right (fun k => hq7 k.1)
          obtain ⟨hATw, wf2, we2, nf2, hTw⟩ := id hcw
          refine ⟨by omega, _, cz_113 hV ht hTw hATw.1 (by omega), ?_⟩
          rintro _ I66 ⟨⟨r669, rfl, ho66⟩, hF66⟩
          refine ⟨_, rfl, ?_⟩
          refine ⟨by omega, ?_⟩
          refine ⟨fun hq8 => ?_, fun hq8 => ?_⟩
          · obtain ⟨_, h41, hTe⟩ := ho66.resolve_left (fun k => by omega)
            exact ⟨⟨_, rfl, Or.inr ⟨rfl, (1, w.2), by rw [lUnit_p c40]; show (lS T z (skB T (s + 1))).bind _ = _; rw [hw1]; show (pSgn T 41 w.2).bind _ = _; unfold pSgn; rw [if_neg h41]; rfl, ⟨show (1 : Int) ≤ 1 by decide, show (1 : Int) ≤ 3 by decide⟩, _, _, _, _, hTe⟩⟩, FLw_trans (FLw_t hF52) (FLw_trans hF60 (FLw_t hF66))⟩
          · obtain ⟨_, h41, hT66⟩ := ho66.resolve_right (fun k => hq8 k.1)
            have hl41 := tat_in h41 (by decide)
            exact ⟨⟨_, rfl, Or.inl ⟨rfl, (w.1, skB T (w.2 + 1)), by rw [lUnit_p c40]; show (lS T z (skB T (s + 1))).bind _ = _; rw [hw1]; show (pSgn T 41 w.2).bind _ = _; unfold pSgn; rw [if_pos h41]; rfl, ⟨(AT_s (by omega)).1, _, _, _, hT66⟩, LW_t hLw hF66 hdy⟩⟩, FLw_trans (FLw_t hF52) (FLw_trans hF60 (FLw_t hF66))⟩
    · refine ⟨by omega, _, cz_107 hV ht hT (by omega), ?_⟩
      rintro _ I72 ⟨rfl, hT72, hF72⟩
      refine ⟨_, rfl, ?_⟩
      refine ⟨by omega, ?_⟩
      have hy0 : y = 0 := by omega
      subst hy0
      exact ⟨⟨_, rfl, Or.inr ⟨rfl, (3, s), by rw [lUnit_p c40]; rfl, ⟨show (1 : Int) ≤ 3 by decide, show (3 : Int) ≤ 3 by decide⟩, _, _, _, _, hT72⟩⟩, FLw_t hF72⟩
