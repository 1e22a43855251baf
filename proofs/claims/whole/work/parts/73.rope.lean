/-! ===== the class: the best roping ===== -/
theorem lexp_mem : ∀ (n : Nat) (B : List Nat), B.Nodup → B.length = n → ∀ L ∈ lexp n B, ∀ x, x ∈ L ↔ x ∈ B
  | 0, B, _, hl, L, h, x => by
    rw [List.mem_singleton.mp h, List.eq_nil_of_length_eq_zero hl]
  | n + 1, B, hB, hl, L, h, x => by
    obtain ⟨c, hc, h2⟩ := List.mem_flatMap.mp h
    obtain ⟨L2, h3, rfl⟩ := List.mem_map.mp h2
    have h4 := lexp_mem n (B.erase c) (hB.erase c) (by rw [List.length_erase_of_mem hc]; omega) L2 h3 x
    rw [List.mem_cons, h4, List.Nodup.mem_erase_iff hB]
    constructor
    · rintro (e | e)
      · rw [e]; exact hc
      · exact e.2
    · intro e
      by_cases e2 : x = c
      · exact Or.inl e2
      · exact Or.inr ⟨e2, e⟩
abbrev lxp (B : Nat) : List (List Nat) := lexp (bl B 8).length (bl B 8)
/-- behind the first i orders -/
def rsi (l : LT) (c : CT) (B i : Nat) : Int × List Nat := ((lxp B).take i).foldl (rst l c) (-1, [])
theorem rsi_0 {l : LT} {c : CT} {B : Nat} : rsi l c B 0 = (-1, []) := by unfold rsi; rw [List.take_zero]; rfl
theorem rsi_s {l : LT} {c : CT} {B i : Nat} {L : List Nat} (h : (lxp B)[i]? = some L) : rsi l c B (i + 1) = rst l c (rsi l c B i) L := by
  unfold rsi
  rw [ls_last h, List.foldl_append]; rfl
theorem rsi_e {l : LT} {c : CT} {B i : Nat} (h : (lxp B)[i]? = none) : rsi l c B i = rop l c B := by
  unfold rsi
  rw [List.take_of_length_le (List.getElem?_eq_none_iff.mp h)]; rfl
theorem lxp_nx {B i : Nat} {L : List Nat} (h6 : (bl B 8).length ≤ 6) (h : (lxp B)[i]? = some L) : (lxp B)[i + 1]? = nxp L := by
  have hx : (lxp B).map nxp = ((lxp B).drop 1).map some ++ [none] := (lex_bl (B := B) rfl h6).1
  have h1 : ((lxp B).map nxp)[i]? = some (nxp L) := by rw [List.getElem?_map, h]; rfl
  have hi := gi_lt h
  rw [hx] at h1
  rcases Nat.lt_or_ge (i + 1) (lxp B).length with h2 | h2
  · rw [List.getElem?_append_left (by rw [List.length_map, List.length_drop]; omega), List.getElem?_map, List.getElem?_drop, Nat.add_comm 1 i] at h1
    rw [List.getElem?_eq_getElem h2] at h1 ⊢
    exact Option.some.inj h1
  · rw [List.getElem?_append_right (by rw [List.length_map, List.length_drop]; omega), List.length_map, List.length_drop, show i - ((lxp B).length - 1) = 0 by omega] at h1
    rw [List.getElem?_eq_none h2]
    exact Option.some.inj h1
theorem lxp_f {B i : Nat} {L : List Nat} (h : (lxp B)[i]? = some L) : L.length = (bl B 8).length ∧ L.Nodup ∧ (∀ x, x ∈ L ↔ x ∈ bl B 8) := by
  have hm := List.mem_of_getElem? h
  exact ⟨(lexp_in _ _ L hm).1, lexp_nd _ _ (bl_nd B 8) L hm, lexp_mem _ _ (bl_nd B 8) rfl L hm⟩
theorem rsi_k {l : LT} {c : CT} (hW : WT l) (hC : WC l c) (hj : CJ c ≠ []) {B : Nat} (h6 : (bl B 8).length ≤ 6) : ∀ i, (-1 ≤ (rsi l c B i).1 ∧ (rsi l c B i).1 ≤ 1500) ∧ (rsi l c B i).2.length ≤ 6 ∧ ∀ x ∈ (rsi l c B i).2, x < 8
  | 0 => by
    have e : rsi l c B 0 = (-1, []) := by unfold rsi; rw [List.take_zero]; rfl
    rw [e]
    exact ⟨by decide, by decide, fun x hx => by cases hx⟩
  | i + 1 => by
    have h1 := rsi_k hW hC hj h6 i
    cases h : (lxp B)[i]? with
    | none =>
      have h2 := List.getElem?_eq_none_iff.mp h
      have e : rsi l c B (i + 1) = rsi l c B i := by
        unfold rsi
        rw [List.take_of_length_le h2, List.take_of_length_le (by omega)]
      rw [e]; exact h1
    | some L =>
      rw [rsi_s h]
      have h2 := lxp_f h
      exact rst_k hW hC hj h1 ⟨by omega, fun x hx => (bl_mem.mp ((h2.2.2 x).mp hx)).1⟩
theorem qn_le (fo : Nat → Nat) (L : List Nat) : ∀ k, qn fo L k ≤ k
  | 0 => Nat.le_refl _
  | k + 1 => by
    have h1 := qn_le fo L k
    have h2 := bN_01 (fo (L.getD k 0)) (L.getD (k + 1) 0)
    show qn fo L k + bN (fo (L.getD k 0)) (L.getD (k + 1) 0) ≤ k + 1
    omega
theorem rst_y {l : LT} {c : CT} {s : Int × List Nat} {L : List Nat} (h : qn (Lf l) L (L.length - 1) = 0 ∧ (s.1 < 0 ∨ hrs l (CJ c) L (Cg c) (Cd c) < s.1)) : rst l c s L = (hrs l (CJ c) L (Cg c) (Cd c), L) := if_pos h
theorem rst_n {l : LT} {c : CT} {s : Int × List Nat} {L : List Nat} (h : ¬ (qn (Lf l) L (L.length - 1) = 0 ∧ (s.1 < 0 ∨ hrs l (CJ c) L (Cg c) (Cd c) < s.1))) : rst l c s L = s := if_neg h
/-- GrievingCamels$Trip.hoursInOrder -/
theorem cz_124 {V : jx_V} (hV : V.1.stackTraces = false) {X : jx_X} {R : jx_R} {I : jx_I} {a0 : Nat} {a1 : Nat} {a2 : Nat} {a3 : Nat} {l : LT} {J L L0 : List Nat} {g d : GT}
    (ht : BX X R a0 TTrip) (hl : BX X R a1 TLand) (h2 : BX X R a2 TRow) (h3 : BX X R a3 TRow) (hD : LD I a1 l) (hW : WT l) (hJ : RW I a2 J) (hJn : ∀ c ∈ J, c < Ln l) (hL : RW I a3 L) (hLm : ∀ c ∈ L, c < Lm l) (hG : GD g d) (hTP : TP I a0 l J L0 g d) (hm : ∀ c, c ∈ L ↔ c ∈ L0) (dl : a0 + 7 ≤ a1 ∨ a1 + 11 ≤ a0) (d2 : a1 + 11 ≤ a2 ∨ a2 + 2 ≤ a1) (d3 : a1 + 11 ≤ a3 ∨ a3 + 2 ≤ a1)
    {QE : String → jx_I → Prop} : jc V 5 124 (0, 0) [.ref a0, .ref a1, .ref a2, .ref a3] X I R (fun rv I' => rv = some (jy (hrs l J L g d)) ∧ FR (a1 + 9) (a1 + 11) I I') QE := by
  have hW0 := hW.1
  have hn := hW.1
  have hL8 : ∀ c ∈ L, c < 8 := fun c hc => by have := hLm c hc; omega
  have hJ10 : ∀ c ∈ J, c < 10 := fun c hc => by have := hJn c hc; omega
  have hJl := hJ.1; have hJ12 := hJ.2.1
  refine wm_124 hV   (fun J9 hJJ => ?_)
  have hJ9 := hJJ
  unfold wz_124
  refine ⟨s_Trip_0 ht, ?_⟩
  have L9 : ∀ (n9 : Nat) (l4 : Int) (l5 : Int) (K : jx_I), n9 = ((J.length : Int) - l5).toNat → (∃ k : Nat, l5 = (k : Int) + 1 ∧ k ≤ J.length - 1 ∧ l4 = rs (Lr l) J (J.length - 1) + jhs l J L g d k ∧ FR (a1 + 9) (a1 + 11) I K) → J9 l4 l5 K := by
    intro n9
    induction n9 using Nat.strongRecOn with
    | ind n9 ih9 =>
    intro l4 l5 K hn9 hI9
    obtain ⟨k, rfl, hk, rfl, hF⟩ := hI9
    have hJK := RW_fr hJ hF (by omega)
    have hJm := hJK.1
    refine hJ9 _ _ _ ?_
    unfold wz_124_9
    refine ⟨s_Row_0 h2, by omega, ?_⟩
    refine ⟨fun hq1 => ?_, fun hq1 => ?_⟩
    · exact ⟨by unfold hrs; rw [show J.length - 1 = k by omega], hF⟩
    · obtain ⟨e1, m1⟩ := RW_gd hJK (i := k + 1) (by omega)
      have hp := hJn _ m1
      have hp10 := hJ10 _ m1
      have hGj := GD_j (l := l) hG hJ10 hL8 k (by omega)
      refine ⟨_, r_Row_0_0 h2, _, ⟨s_Row_1 h2, by decide⟩, ?_⟩
      try simp only [-eq_self, show ((k : Int) + 1).toNat = k + 1 by omega, e1]
      refine ⟨by omega, s_Trip_0 ht, ?_⟩
      refine ⟨_, cz_122 (p := J.getD (k + 1) 0) (i := k + 1) (g := (jst l J L g d k).1 (J.getD (k + 1) 0)) hV ht hl h3 (LD_fr hD hF (by omega)) hW (RW_fr hL hF (by omega)) hL8 rfl hp (by omega) (by omega) (fun x hx => ⟨by rw [hF _ (by omega), ((hTP.2.2.2 k (by omega)).2 x (hL8 x hx)), jst_mem hm k], (hGj _ x hp10 (hL8 x hx)).1⟩) (by omega) (by omega), ?_⟩
      rintro _ I12 ⟨rfl, hF2⟩
      refine ⟨_, rfl, ?_⟩
      exact ih9 _ (by omega) _ _ _ rfl (⟨k + 1, by omega, by omega, by show _ + hlt _ _ _ = rs (Lr l) J (J.length - 1) + (jhs l J L g d k + jht l J L g d k); unfold jht; omega, FR_trans hF hF2⟩)
  exact L9 _ _ _ _ rfl (⟨0, by omega, by omega, by rw [hTP.2.1]; show _ = rs (Lr l) J (J.length - 1) + 0; omega, FR_refl⟩)
/-- GrievingCamels.rope -/
theorem cz_196 {V : jx_V} (hV : V.1.stackTraces = false) {X : jx_X} {R : jx_R} {I : jx_I} {a0 : Nat} {a1 : Int} {ld : Nat} {l : LT} {c : CT} {B : Nat}
    (h : GX X R I a0 ld l c) (hj : CJ c ≠ []) (h1 : a1 = (B : Int)) (hB : B < 2 ^ Lm l) (hB0 : bl B 8 ≠ []) (h6 : (bl B 8).length ≤ 6)
    {QE : String → jx_I → Prop} : jc V 6 196 (0, 0) [.ref a0, jy a1] X I R (fun rv I' => rv = some (jy (rop l c B).1) ∧ (0 ≤ (rop l c B).1 → RW I' (a0 + 30) (rop l c B).2) ∧ FS a0 I I') QE := by
  have hW := h.2.2.2.1
  have hW0 := hW.1
  have hB8 : B < 256 := Nat.lt_of_lt_of_le hB (Nat.pow_le_pow_right (by omega) hW0.2 : 2 ^ Lm l ≤ 2 ^ 8)
  have hlp : 0 < (bl B 8).length := List.length_pos_iff.mpr hB0
  have hbm : ∀ x ∈ bl B 8, x < Lm l := fun x hx => by rw [bl_top hB 8 hW0.2] at hx; exact (bl_mem.mp hx).1
  have h720 := (lex_bl (B := B) rfl h6).2
  have hJ1 := WC_J h.2.2.2.2.2.1 hj
  refine wm_196 hV (by omega)  (fun J41 J110 hJJ => ?_)
  obtain ⟨hJ41, hJ110⟩ := hJJ
  have hl := GX_l h
  have hD := h.2.2.1; have hS := h.2.2.2.2.1; have hC := h.2.2.2.2.2.1; have hlo := h.2.1.2
  unfold wz_196
  refine ⟨s_GC_0 h.1, _, r_GC_0_8 h.1, s_Row_0 (b_GC_28 h.1), ?_⟩
  refine ⟨_, cz_76 hV (b_GC_28 h.1) h1 (by omega), ?_⟩
  rintro _ I7 ⟨rfl, hR, hF1⟩
  refine ⟨rfl, ?_⟩
  refine ⟨_, r_GC_0_4 h.1, _, h.2.1.1, _, r_GC_0_2 h.1, s_State_0 (b_GC_4 h.1), _, r_State_0_2 (b_GC_4 h.1), _, r_State_0_0 (b_GC_4 h.1), s_Trip_0 (b_GC_17 h.1), ?_⟩
  refine ⟨_, cz_121 hV (b_GC_17 h.1) hl (b_GC_11 h.1) (b_GC_28 h.1) (LD_fr hD hF1 (by omega)) hW (RW_fr hS.2.2.1 hF1 (by omega)) (WC_J hC hj).2.1 hR hbm (bl_nd B 8) hC.1 (by omega) (by omega) (by omega) (b_GC_5 h.1) (WC_J hC hj).2.2 (HD_fr hS.1 hF1 (by omega)) (by omega) (by omega), ?_⟩
  rintro _ I23 ⟨rfl, hT, h0, hF⟩
  refine ⟨rfl, ?_⟩
  have hFS0 : FS a0 I I23 := FS_2 (FS_fr FS_refl hF1 (by omega)) hF h0 hlo
  have hR23 : RW I23 (a0 + 28) (bl B 8) := RW_fr2 hR hF (by omega) (by omega)
  have L41 : ∀ (n41 : Nat) (l2 : Int) (l3 : Int) (K : jx_I), n41 = (720 - l3).toNat → (∃ (i : Nat) (L : List Nat), l3 = (i : Int) ∧ (lxp B)[i]? = some L ∧ l2 = (rsi l c B i).1 ∧ RW K (a0 + 28) L ∧ (0 ≤ (rsi l c B i).1 → RW K (a0 + 30) (rsi l c B i).2) ∧ TP K (a0 + 17) l (CJ c) (bl B 8) (Cg c) (Cd c) ∧ FS a0 I K) → J41 l2 l3 K := by
    intro n41
    induction n41 using Nat.strongRecOn with
    | ind n41 ih41 =>
    intro l2 l3 K hn41 hI41
    obtain ⟨i, L, rfl, hPi, rfl, hRK, hBK, hTK, hFK⟩ := hI41
    have hi := gi_lt hPi
    have h721 : (lxp B).length ≤ 720 := h720.1
    have h9 := GX_s h hFK
    have hD9 := h9.2.2.1
    have hf := lxp_f hPi
    have hLm : ∀ x ∈ L, x < Lm l := fun x hx => hbm x ((hf.2.2 x).mp hx)
    have hLne : L ≠ [] := fun e => by rw [e] at hf; have := hf.1; simp only [List.length_nil] at this; omega
    have hrk := rsi_k hW hC hj h6 i
    have hq0 : 0 ≤ qn (Lf l) L (L.length - 1) := Nat.zero_le _
    have hqb : qn (Lf l) L (L.length - 1) ≤ 12 := Nat.le_trans (qn_le (Lf l) L (L.length - 1)) (by omega)
    have hs := rsi_s (l := l) (c := c) hPi
    refine hJ41 _ _ _ ?_
    unfold wz_196_41
    refine ⟨by omega, ?_⟩
    refine ⟨fun hq1 => ?_, fun hq1 => ?_⟩
    · omega
    · refine ⟨s_GC_0 h.1, _, h.2.1.1, _, r_GC_0_8 h.1, s_Land_0 hl, ?_⟩
      refine ⟨_, cz_41 hV hl hD9 hW (b_GC_28 h9.1) hRK hLm, ?_⟩
      rintro _ I34 ⟨rfl, e9⟩; replace e9 := e9.symm; subst e9
      refine ⟨_, rfl, ?_⟩
      refine ⟨by omega, ?_⟩
      refine ⟨fun hq2 => ?_, fun hq2 => ?_⟩
      · have hns : rsi l c B (i + 1) = rsi l c B i := by rw [hs]; exact rst_n (fun k => hq2 (by rw [k.1]; rfl))
        refine ⟨s_Row_0 (b_GC_28 h.1), ?_⟩
        refine ⟨_, cz_82 hV (b_GC_28 h.1) hRK hLne, ?_⟩
        rintro _ I40 ⟨r9, rfl, hnx⟩
        refine ⟨_, rfl, ?_⟩
        refine ⟨by omega, ?_⟩
        refine ⟨fun hq3 => ?_, fun hq3 => ?_⟩
        · obtain ⟨_, L2, hL2, hR2, hF2⟩ := hnx.resolve_left (fun k => hq3 k.1)
          exact ih41 _ (by omega) _ _ _ rfl (⟨i + 1, L2, by omega, by rw [lxp_nx h6 hPi]; exact hL2, by rw [hns], hR2, fun k => by rw [hns] at k ⊢; exact RW_fr (hBK k) hF2 (by omega), TP_fr hTK hF2 (by omega), FS_fr hFK hF2 (by omega)⟩)
        · obtain ⟨_, hno, rfl⟩ := hnx.resolve_right (fun k => by omega)
          have hend : (lxp B)[i + 1]? = none := by rw [lxp_nx h6 hPi]; exact hno
          rw [rsi_e hend] at hns
          exact ⟨by rw [← hns], fun k => by rw [hns] at k ⊢; exact hBK k, hFK⟩
      · refine ⟨_, r_GC_0_4 h.1, _, r_GC_0_2 h.1, s_State_0 (b_GC_4 h.1), _, r_State_0_2 (b_GC_4 h.1), s_Trip_0 (b_GC_17 h.1), ?_⟩
        refine ⟨_, cz_124 hV (b_GC_17 h.1) hl (b_GC_11 h.1) (b_GC_28 h.1) hD9 hW h9.2.2.2.2.1.2.2.1 hJ1.2.1 hRK hLm hC.1 hTK hf.2.2 (by omega) (by omega) (by omega), ?_⟩
        rintro _ I53 ⟨rfl, hF3⟩
        refine ⟨_, rfl, ?_⟩
        have hFS3 := FS_fr hFK hF3 (by omega)
        have hhr := hrs_rng hW hJ1.2.1 hJ1.1.2 L (Cg c) (Cd c)
        have hTP3 := TP_fr hTK hF3 (by omega)
        refine ⟨by omega, ?_⟩
        refine ⟨fun hq4 => ?_, fun hq4 => ?_⟩
        · have hns : rsi l c B (i + 1) = (hrs l (CJ c) L (Cg c) (Cd c), L) := by rw [hs]; exact rst_y ⟨by omega, Or.inl hq4⟩
          refine ⟨_, r_GC_0_9 h.1, s_Row_0 (b_GC_30 h.1), ?_⟩
          refine ⟨_, cz_74 hV (b_GC_30 h.1) (b_GC_28 h.1) (by omega) (RW_fr hRK hF3 (by omega)), ?_⟩
          rintro _ I61 ⟨rfl, hR4, hF4⟩
          refine ⟨rfl, ?_⟩
          have hFS4 := FS_fr hFS3 hF4 (by omega)
          have hTP4 := TP_fr hTP3 hF4 (by omega)
          refine hJ110 _ _ _ ?_
          unfold wz_196_110
          refine ⟨s_GC_0 h.1, _, r_GC_0_8 h.1, s_Row_0 (b_GC_28 h.1), ?_⟩
          refine ⟨_, cz_82 hV (b_GC_28 h.1) (RW_fr (RW_fr hRK hF3 (by omega)) hF4 (by omega)) hLne, ?_⟩
          rintro _ I83 ⟨r9, rfl, hnx⟩
          refine ⟨_, rfl, ?_⟩
          refine ⟨by omega, ?_⟩
          refine ⟨fun hq5 => ?_, fun hq5 => ?_⟩
          · obtain ⟨_, L2, hL2, hR2, hF2⟩ := hnx.resolve_left (fun k => hq5 k.1)
            exact ih41 _ (by omega) _ _ _ rfl (⟨i + 1, L2, by omega, by rw [lxp_nx h6 hPi]; exact hL2, by rw [hns], hR2, fun _ => by rw [hns]; exact RW_fr hR4 hF2 (by omega), TP_fr hTP4 hF2 (by omega), FS_fr hFS4 hF2 (by omega)⟩)
          · obtain ⟨_, hno, rfl⟩ := hnx.resolve_right (fun k => by omega)
            have hend : (lxp B)[i + 1]? = none := by rw [lxp_nx h6 hPi]; exact hno
            rw [rsi_e hend] at hns
            exact ⟨by rw [hns], fun _ => by rw [hns]; exact hR4, hFS4⟩
        · refine ⟨by omega, ?_⟩
          refine ⟨fun hq6 => ?_, fun hq6 => ?_⟩
          · have hns : rsi l c B (i + 1) = rsi l c B i := by rw [hs]; exact rst_n (fun k => by omega)
            refine ⟨s_Row_0 (b_GC_28 h.1), ?_⟩
            refine ⟨_, cz_82 hV (b_GC_28 h.1) (RW_fr hRK hF3 (by omega)) hLne, ?_⟩
            rintro _ I67 ⟨r9, rfl, hnx⟩
            refine ⟨_, rfl, ?_⟩
            refine ⟨by omega, ?_⟩
            refine ⟨fun hq7 => ?_, fun hq7 => ?_⟩
            · obtain ⟨_, L2, hL2, hR2, hF2⟩ := hnx.resolve_left (fun k => hq7 k.1)
              exact ih41 _ (by omega) _ _ _ rfl (⟨i + 1, L2, by omega, by rw [lxp_nx h6 hPi]; exact hL2, by rw [hns], hR2, fun k => by rw [hns] at k ⊢; exact RW_fr (RW_fr (hBK k) hF3 (by omega)) hF2 (by omega), TP_fr hTP3 hF2 (by omega), FS_fr hFS3 hF2 (by omega)⟩)
            · obtain ⟨_, hno, rfl⟩ := hnx.resolve_right (fun k => by omega)
              have hend : (lxp B)[i + 1]? = none := by rw [lxp_nx h6 hPi]; exact hno
              rw [rsi_e hend] at hns
              exact ⟨by rw [← hns], fun k => by rw [hns] at k ⊢; exact RW_fr (hBK k) hF3 (by omega), hFS3⟩
          · have hns : rsi l c B (i + 1) = (hrs l (CJ c) L (Cg c) (Cd c), L) := by rw [hs]; exact rst_y ⟨by omega, Or.inr (by omega)⟩
            refine ⟨_, r_GC_0_9 h.1, s_Row_0 (b_GC_30 h.1), ?_⟩
            refine ⟨_, cz_74 hV (b_GC_30 h.1) (b_GC_28 h.1) (by omega) (RW_fr hRK hF3 (by omega)), ?_⟩
            rintro _ I75 ⟨rfl, hR4, hF4⟩
            refine ⟨rfl, ?_⟩
            have hFS4 := FS_fr hFS3 hF4 (by omega)
            have hTP4 := TP_fr hTP3 hF4 (by omega)
            refine hJ110 _ _ _ ?_
            unfold wz_196_110
            refine ⟨s_GC_0 h.1, _, r_GC_0_8 h.1, s_Row_0 (b_GC_28 h.1), ?_⟩
            refine ⟨_, cz_82 hV (b_GC_28 h.1) (RW_fr (RW_fr hRK hF3 (by omega)) hF4 (by omega)) hLne, ?_⟩
            rintro _ I83 ⟨r9, rfl, hnx⟩
            refine ⟨_, rfl, ?_⟩
            refine ⟨by omega, ?_⟩
            refine ⟨fun hq8 => ?_, fun hq8 => ?_⟩
            · obtain ⟨_, L2, hL2, hR2, hF2⟩ := hnx.resolve_left (fun k => hq8 k.1)
              exact ih41 _ (by omega) _ _ _ rfl (⟨i + 1, L2, by omega, by rw [lxp_nx h6 hPi]; exact hL2, by rw [hns], hR2, fun _ => by rw [hns]; exact RW_fr hR4 hF2 (by omega), TP_fr hTP4 hF2 (by omega), FS_fr hFS4 hF2 (by omega)⟩)
            · obtain ⟨_, hno, rfl⟩ := hnx.resolve_right (fun k => by omega)
              have hend : (lxp B)[i + 1]? = none := by rw [lxp_nx h6 hPi]; exact hno
              rw [rsi_e hend] at hns
              exact ⟨by rw [hns], fun _ => by rw [hns]; exact hR4, hFS4⟩
  exact L41 _ _ _ _ rfl (⟨0, bl B 8, rfl, h720.2, by rw [rsi_0], hR23, fun k => by rw [rsi_0] at k; exact absurd k (by decide), hT, hFS0⟩)
