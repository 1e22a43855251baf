/-! ===== the class: feed, land, plan, image, restore ===== -/
/-- twenty bytes of five numbers -/
def fbs (a1 a2 a3 a4 a5 : Int) : List Int := (List.range 20).map (fun j => wby (fdw a1 a2 a3 a4 a5 (j / 4)) (j % 4))
theorem fbs_l (a1 a2 a3 a4 a5 : Int) : (fbs a1 a2 a3 a4 a5).length = 20 := by unfold fbs; rw [List.length_map, List.length_range]
theorem fbs_get {a1 a2 a3 a4 a5 x : Int} {j : Nat} (h : (fbs a1 a2 a3 a4 a5)[j]? = some x) : j < 20 ∧ x = wby (fdw a1 a2 a3 a4 a5 (j / 4)) (j % 4) := by
  unfold fbs at h
  rw [List.getElem?_map] at h
  obtain ⟨y, h1, h2⟩ := Option.map_eq_some_iff.mp h
  obtain ⟨h3, h4⟩ := List.getElem?_eq_some_iff.mp h1
  rw [List.length_range] at h3
  rw [List.getElem_range] at h4
  exact ⟨h3, by rw [← h2, ← h4]⟩
/-- what was fed, and more -/
theorem fed_app {B : List Int} {a1 a2 a3 a4 a5 : Int} {g g' : Nat → Int} (hb : ∀ (k : Nat) (x : Int), B[k]? = some x → g k = x) (h1 : ∀ j, j < 20 → g' (B.length + j) = wby (fdw a1 a2 a3 a4 a5 (j / 4)) (j % 4)) (h2 : ∀ k, k < B.length → g' k = g k) : ∀ (k : Nat) (x : Int), (B ++ fbs a1 a2 a3 a4 a5)[k]? = some x → g' k = x := by
  intro k x hk
  by_cases e : k < B.length
  · rw [List.getElem?_append_left e] at hk
    rw [h2 k e]
    exact hb k x hk
  · rw [List.getElem?_append_right (by omega)] at hk
    obtain ⟨h3, h4⟩ := fbs_get hk
    have h5 := h1 (k - B.length) h3
    rw [show B.length + (k - B.length) = k by omega] at h5
    rw [h5, h4]
/-- what a land's text leaves -/
def lns (s : YZ) (y : PX LB) : YZ := match y with
  | .ok L => ((L.1, CT0 L), ([], lnF y, ([], [], [])), [], s.2.2.2)
  | .error _ => (s.1, ([], lnF y, s.2.1.2.2), s.2.2)
/-- what a plan's text leaves -/
def pls2 (s : YZ) (y : PX PS) : YZ := match y with
  | .ok r => (s.1, ([], plF y, (r.1, r.2.1, r.2.2.1)), s.2.2)
  | .error _ => (s.1, ([], plF y, s.2.1.2.2), s.2.2)
theorem WP_0 {l : LT} : WP l ([], [], []) := ⟨⟨Nat.zero_le _, Nat.zero_le _, Nat.zero_le _⟩, fun k e he => (by cases he), fun k e he => (by cases he), fun k e he => (by cases he)⟩
noncomputable def ov_0 (s : YZ) (a1 : Int) (a2 : Int) (a3 : Int) (a4 : Int) (a5 : Int) : Int := if (yz_b s).length + 20 ≤ 600 then (((yz_b s).length + 20 : Nat) : Int) else (-1)
noncomputable def os_0 (s : YZ) (a1 : Int) (a2 : Int) (a3 : Int) (a4 : Int) (a5 : Int) : YZ := if (yz_b s).length + 20 ≤ 600 then (s.1, ((yz_b s ++ fbs a1 a2 a3 a4 a5), yz_f s, yz_p s), s.2.2) else s
theorem kc_0 {V : jx_V} (hV : V.1.stackTraces = false) {X : jx_X} {R : jx_R} {I : jx_I} {a0 : Nat} {a1 : Int} {a2 : Int} {a3 : Int} {a4 : Int} {a5 : Int} {s : YZ} (h : CI X R I a0 s) (hg : ZG s) (r_a1 : -2147483648 ≤ a1 ∧ a1 < 2147483648) (r_a2 : -2147483648 ≤ a2 ∧ a2 < 2147483648) (r_a3 : -2147483648 ≤ a3 ∧ a3 < 2147483648) (r_a4 : -2147483648 ≤ a4 ∧ a4 < 2147483648) (r_a5 : -2147483648 ≤ a5 ∧ a5 < 2147483648) : jp V 2 135 (0, 0) [.ref a0, jy a1, jy a2, jy a3, jy a4, jy a5] X I R (KQ X R I a0 none (jy (ov_0 s a1 a2 a3 a4 a5)) (os_0 s a1 a2 a3 a4 a5)) (fun _ _ _ => False) := by
  have hh := h
  obtain ⟨ld, l2, y, y2, hG, hL, hYs, hY, hT, hF, hE, hI, hr⟩ := hh
  have hW := hg.1
  have hC := hg.2.1
  have hW1 := hW.1
  refine jp_c (QE0 := fun _ _ => False) (cz_135 hV hG.1 hT.1 hT.2.1 r_a1 r_a2 r_a3 r_a4 r_a5) (fun rv I' hq => ?_) (fun _ _ q => q)
  rcases hq with ⟨q2, q1, q3, q4, q5, q6, q7⟩ | ⟨q2, q1, rfl⟩
  · unfold ov_0 os_0
    rw [if_pos q2, if_pos q2]
    have hl2 : (yz_b s ++ fbs a1 a2 a3 a4 a5).length = (yz_b s).length + 20 := by rw [List.length_append, fbs_l]
    have hTP : TPB I' a0 (yz_b s ++ fbs a1 a2 a3 a4 a5) := ⟨by rw [q3, hl2], by rw [hl2]; exact q2, fed_app (g := fun k => (I (a0 + 2) k).toInt) (g' := fun k => (I' (a0 + 2) k).toInt) hT.2.2 q4 (fun k hk => by show (I' (a0 + 2) k).toInt = (I (a0 + 2) k).toInt; rw [q5 k hk])⟩
    refine ⟨rfl, q1, ?_, ⟨hg.1, hg.2.1, hg.2.2.1, by show (yz_b s ++ fbs a1 a2 a3 a4 a5).length ≤ 600; rw [hl2]; exact q2, hg.2.2.2.2⟩, fun q hq => ⟨q7 q (by omega) (by omega), rfl⟩⟩
    refine CI_G (c' := yz_c s) (i' := yz_i s) (r' := yz_r s) h (SX_of hG.2.2.2.2.1 (fun q h1 h2 => q7 q (by omega) (by omega))) hC (EV_fr hE (q7 _ (by omega) (by omega)) (q7 _ (by omega) (by omega))) ⟨hG.1, rfl⟩ hTP (by rw [q6 8 (by decide)]; exact hF) ⟨by rw [q7 _ (by omega) (by omega)]; exact hI.1, fun k e he => SX_of (hI.2 k e he) (fun q h1 h2 => q7 q (by omega) (by omega))⟩ (by rw [q7 _ (by omega) (by omega)]; exact hr) (by rw [q7 _ (by omega) (by omega)]) (fun q h1 h2 h3 h4 => q7 q (by omega) (by omega))
  · unfold ov_0 os_0
    rw [if_neg (by omega), if_neg (by omega)]
    exact ⟨rfl, q1, h, hg, FB_s FS_refl⟩
noncomputable def ov_48 (s : YZ)  : Int := if (yz_i s).length = 3 then (-1) else ((yz_i s).length + 1 : Nat)
noncomputable def os_48 (s : YZ)  : YZ := if (yz_i s).length = 3 then s else (s.1, s.2.1, yz_i s ++ [yz_c s], yz_r s)
theorem kc_48 {V : jx_V} (hV : V.1.stackTraces = false) {X : jx_X} {R : jx_R} {I : jx_I} {a0 : Nat}  {s : YZ} (h : CI X R I a0 s) (hg : ZG s)  : jp V 3 183 (0, 0) [.ref a0] X I R (KQ X R I a0 none (jy (ov_48 s )) (os_48 s )) (fun _ _ _ => False) := by
  have hh := h
  obtain ⟨ld, l2, y, y2, hG, hL, hYs, hY, hT, hF, hE, hI, hr⟩ := hh
  have hW := hg.1
  have hC := hg.2.1
  have hW1 := hW.1
  refine jp_c (QE0 := fun _ _ => False) (cz_183 hV hG hI.1 hg.2.2.2.2.1) (fun rv I' hq => ?_) (fun _ _ q => q)
  rcases hq with ⟨q2, q1, rfl⟩ | ⟨q2, q1, q3, q4, q5⟩
  · unfold ov_48 os_48
    rw [if_pos q2, if_pos q2]
    exact ⟨rfl, q1, h, hg, FB_s FS_refl⟩
  · unfold ov_48 os_48
    rw [if_neg (by omega), if_neg (by omega)]
    have hl2 : (yz_i s ++ [yz_c s]).length = (yz_i s).length + 1 := by simp
    refine ⟨rfl, q1, ?_, ⟨hg.1, hg.2.1, hg.2.2.1, hg.2.2.2.1, by show (yz_i s ++ [yz_c s]).length ≤ 3; omega, fun e he => ?_⟩, fun q hq => ⟨q5 q (by omega) (by omega), rfl⟩⟩
    · refine CI_G (c' := yz_c s) (B' := yz_b s) (f' := yz_f s) (r' := yz_r s) h (SX_of hG.2.2.2.2.1 (fun q h1 h2 => q5 q (by omega) (by omega))) hC (EV_fr hE (q5 _ (by omega) (by omega)) (q5 _ (by omega) (by omega))) ⟨hG.1, rfl⟩ ⟨by rw [q5 _ (by omega) (by omega)]; exact hT.1, hT.2.1, by rw [q5 _ (by omega) (by omega)]; exact hT.2.2⟩ (by rw [q5 _ (by omega) (by omega)]; exact hF) ⟨by rw [q4, hl2], fun k e he => ?_⟩ (by rw [q5 _ (by omega) (by omega)]; exact hr) (by rw [q5 _ (by omega) (by omega)]) (fun q h1 h2 h3 h4 => q5 q (by omega) (by omega))
      by_cases e9 : k < (yz_i s).length
      · rw [List.getElem?_append_left e9] at he
        exact SX_of (hI.2 k e he) (fun q h1 h2 => q5 q (by omega) (by omega))
      · have hk := gi_lt he
        have hk9 : k = (yz_i s).length := by omega
        rw [hk9, List.getElem?_concat_length] at he
        cases he
        rw [hk9]
        exact q3
    · rcases List.mem_append.mp he with h1 | h1
      · exact hg.2.2.2.2.2 e h1
      · rw [List.mem_singleton.mp h1]; exact hC
noncomputable def ov_49 (s : YZ)  : Int := (((yz_i s).length : Int) - 1)
noncomputable def os_49 (s : YZ)  : YZ := cif (yz_i s = []) s ((yz_l s, ((yz_i s).getLastD (yz_c s))), s.2.1, (yz_i s).dropLast, yz_r s)
theorem kc_49 {V : jx_V} (hV : V.1.stackTraces = false) {X : jx_X} {R : jx_R} {I : jx_I} {a0 : Nat}  {s : YZ} (h : CI X R I a0 s) (hg : ZG s)  : jp V 3 184 (0, 0) [.ref a0] X I R (KQ X R I a0 none (jy (ov_49 s )) (os_49 s )) (fun _ _ _ => False) := by
  have hh := h
  obtain ⟨ld, l2, y, y2, hG, hL, hYs, hY, hT, hF, hE, hI, hr⟩ := hh
  have hW := hg.1
  have hC := hg.2.1
  have hW1 := hW.1
  by_cases e0 : yz_i s = []
  · refine jp_c (QE0 := fun _ _ => False) (cz_184z hV hG (by rw [hI.1, e0]; rfl)) (fun rv I' hq => ?_) (fun _ _ q => q)
    obtain ⟨q1, rfl⟩ := hq
    unfold ov_49 os_49
    rw [cif_t e0, e0]
    exact ⟨rfl, q1, h, hg, FB_s FS_refl⟩
  · obtain ⟨u, e, hue⟩ : ∃ u e, yz_i s = u ++ [e] := ⟨_, _, (List.dropLast_concat_getLast e0).symm⟩
    have hl2 : (u ++ [e]).length = u.length + 1 := by simp
    have h3 := hg.2.2.2.2.1
    rw [hue] at h3
    have hCe : WC (yz_l s) e := hg.2.2.2.2.2 e (by rw [hue]; simp)
    refine jp_c (QE0 := fun _ _ => False) (cz_184 hV hG (n := u.length) (e := e) (by rw [hI.1, hue, hl2]; rfl) (by omega) (hI.2 u.length e (by rw [hue, List.getElem?_concat_length]))) (fun rv I' hq => ?_) (fun _ _ q => q)
    obtain ⟨q1, q3, q0, q4, q5, q6⟩ := hq
    unfold ov_49 os_49
    rw [cif_f e0, hue, lul_, lud_, lun_]
    refine ⟨rfl, q1, ?_, ⟨hg.1, hCe, hg.2.2.1, hg.2.2.2.1, by show u.length ≤ 3; omega, fun e2 he => hg.2.2.2.2.2 e2 (by rw [hue]; exact List.mem_append_left _ he)⟩, fun q hq => ⟨q6 q (by omega) (by omega) (by omega), rfl⟩⟩
    refine CI_G (B' := yz_b s) (f' := yz_f s) (r' := yz_r s) h q3 hCe (EV_6 hE q4 (q6 _ (by omega) (by omega) (by omega))) ⟨hG.1, rfl⟩ ⟨by rw [q6 _ (by omega) (by omega) (by omega)]; exact hT.1, hT.2.1, by rw [q6 _ (by omega) (by omega) (by omega)]; exact hT.2.2⟩ (by rw [q6 _ (by omega) (by omega) (by omega)]; exact hF) ⟨q0, fun k e2 he => ?_⟩ (by rw [q6 _ (by omega) (by omega) (by omega)]; exact hr) (by rw [q6 _ (by omega) (by omega) (by omega)]) (fun q h1 h2 h3 h4 => q6 q (by omega) (by omega) (by omega))
    have hk := gi_lt he
    exact SX_of (hI.2 k e2 (by rw [hue, List.getElem?_append_left hk]; exact he)) (fun q h1 h2 => q6 q (by omega) (by omega) (by omega))
def oe_34 (s : YZ) (a1 : Int) : Option (Nat × Int) := nzw (0 ≤ a1 ∧ a1 ≤ ((yz_b s).length : Int) ∧ a1 ≤ 200) 2 1 none
noncomputable def ov_34 (s : YZ) (a1 : Int) : Int := (plA (plo (yz_b s) a1.toNat (Ln (yz_l s)) (Lm (yz_l s))))
noncomputable def os_34 (s : YZ) (a1 : Int) : YZ := pls2 s (plo (yz_b s) a1.toNat (Ln (yz_l s)) (Lm (yz_l s)))
theorem kc_34 {V : jx_V} (hV : V.1.stackTraces = false) {X : jx_X} {R : jx_R} {I : jx_I} {a0 : Nat} {a1 : Int} {s : YZ} (h : CI X R I a0 s) (hg : ZG s) (r_a1 : -2147483648 ≤ a1 ∧ a1 < 2147483648) : jp V 201 178 (1, 6) [.ref a0, jy a1] X I R (KQ X R I a0 (oe_34 s a1) (jy (ov_34 s a1)) (os_34 s a1)) (KE X R I a0 (oe_34 s a1) s) := by
  have hh := h
  obtain ⟨ld, l2, y, y2, hG, hL, hYs, hY, hT, hF, hE, hI, hr⟩ := hh
  have hW := hg.1
  have hC := hg.2.1
  have hW1 := hW.1
  refine jp_d (cz_178 hV hG hT hYs r_a1) (fun rv I' R' hq => ?_) (fun E I' R' hq => ?_)
  · obtain ⟨q0, q1, q2, q3, q4⟩ := hq
    have w1 := (nz_s q0).1
    refine ⟨ec_n (by unfold oe_34; simp only [ec_w, ec_0]) q0, q1, ?_⟩
    unfold os_34
    obtain ⟨z, hz⟩ : ∃ z, z = plo (yz_b s) a1.toNat (Ln (yz_l s)) (Lm (yz_l s)) := ⟨_, rfl⟩
    rw [← hz] at q2 q4 ⊢
    have hyy := hYs.2.2
    have hTP : TPB I' a0 [] := ⟨q3, Nat.zero_le _, fun k x hk => by cases hk⟩
    have hlo := hG.2.1.2
    cases z with
    | error er =>
      obtain ⟨hR, hf⟩ := q4
      rw [hR]
      have ek : ∀ q, y ≤ q → q < y + 12 → I' q = I q := fun q h1 h2 => hf q (by omega) (by omega)
      refine ⟨⟨ld, l2, y, y2, GX_o hG (SX_of hG.2.2.2.2.1 (fun q h1 h2 => hf q (by omega) (by omega))) hC (by rw [hf _ (by omega) (by omega)]) (fun q h1 h2 h3 h4 => hf q (by omega) (by omega)), hL, hYs, ⟨hY.1, hY.2.1, CPS_of hY.2.2.1 ek, CPV_of hY.2.2.2.1 ek, by rw [ek (y + 3) (by omega) (by omega)]; exact hY.2.2.2.2⟩, hTP, q2, EV_fr hE (hf _ (by omega) (by omega)) (hf _ (by omega) (by omega)), ⟨by rw [hf _ (by omega) (by omega)]; exact hI.1, fun k e he => SX_of (hI.2 k e he) (fun q h1 h2 => hf q (by omega) (by omega))⟩, by rw [hf _ (by omega) (by omega)]; exact hr⟩, ⟨hg.1, hg.2.1, hg.2.2.1, Nat.zero_le _, hg.2.2.2.2⟩, fun q hq => ⟨hf q (by omega) (by omega), rfl⟩⟩
    | ok r =>
      obtain ⟨hP2, hR, hf⟩ := q4
      have hRF : RF a0 [13, 14] R R' := fun q k hqk => by
        rw [hR]
        show jx_u (jx_u R a0 13 (some y2)) a0 14 (some y) q k = R q k
        unfold jx_u
        rw [if_neg (fun w => hqk ⟨w.1, by rw [w.2]; decide⟩), if_neg (fun w => hqk ⟨w.1, by rw [w.2]; decide⟩)]
      have hB : BX X R' a0 TGC := BX_rx hG.1 hRF (fun k en hk e2 => by
        have hk0 : k = 0 := by omega
        subst hk0
        have h5 : TGC[0]? = some ((11, 0), [(0, 1), (1, 3), (2, 4), (3, 16), (4, 17), (5, 82), (6, 24), (7, 89), (8, 28), (9, 30), (10, 32)]) := rfl
        rw [h5] at hk
        rw [← Option.some.inj hk]
        decide)
      have hr13 : R' a0 13 = some y2 := by rw [hR, jx_u_k _ _ _ _ (by decide), jx_u_s]
      have hr14 : R' a0 14 = some y := by rw [hR, jx_u_s]
      have hG' := GX_o hG (SX_of hG.2.2.2.2.1 (fun q h1 h2 => hf q (by omega) (by omega))) hC (by rw [hf _ (by omega) (by omega)]) (fun q h1 h2 h3 h4 => hf q (by omega) (by omega))
      refine ⟨⟨ld, l2, y2, y, ⟨hB, ⟨by rw [hRF _ _ (fun w => absurd w.2 (by decide))]; exact hG.2.1.1, hG.2.1.2⟩, hG'.2.2⟩, ⟨by rw [hRF _ _ (fun w => absurd w.2 (by decide))]; exact hL.1, hL.2⟩, ⟨hr13, hr14, by omega⟩, hP2, hTP, q2, EV_fr hE (hf _ (by omega) (by omega)) (hf _ (by omega) (by omega)), ⟨by rw [hf _ (by omega) (by omega)]; exact hI.1, fun k e he => SX_of (hI.2 k e he) (fun q h1 h2 => hf q (by omega) (by omega))⟩, by rw [hf _ (by omega) (by omega)]; exact hr⟩, ⟨hg.1, hg.2.1, plo_WP (n := a1.toNat) hW (by rw [List.length_take]; omega) hz.symm, Nat.zero_le _, hg.2.2.2.2⟩, fun q hq => ⟨hf q (by omega) (by omega), RF_q hRF (by omega)⟩⟩
  · obtain ⟨k, q1, q2, q3, rfl⟩ := hq
    exact KE_r h hg (by unfold oe_34; simp only [ec_w, ec_0]) ⟨q1, q2, q3⟩
def oe_1 (s : YZ) (a1 : Int) : Option (Nat × Int) := nzw (0 ≤ a1 ∧ a1 ≤ ((yz_b s).length : Int)) 2 1 none
noncomputable def ov_1 (s : YZ) (a1 : Int) : Int := (lnA (lno (yz_b s) a1.toNat))
noncomputable def os_1 (s : YZ) (a1 : Int) : YZ := lns s (lno (yz_b s) a1.toNat)
theorem kc_1 {V : jx_V} (hV : V.1.stackTraces = false) {X : jx_X} {R : jx_R} {I : jx_I} {a0 : Nat} {a1 : Int} {s : YZ} (h : CI X R I a0 s) (hg : ZG s) (r_a1 : -2147483648 ≤ a1 ∧ a1 < 2147483648) : jp V 203 136 (1, 6) [.ref a0, jy a1] X I R (KQ X R I a0 (oe_1 s a1) (jy (ov_1 s a1)) (os_1 s a1)) (KE X R I a0 (oe_1 s a1) s) := by
  have hh := h
  obtain ⟨ld, l2, y, y2, hG, hL, hYs, hY, hT, hF, hE, hI, hr⟩ := hh
  have hW := hg.1
  have hC := hg.2.1
  have hW1 := hW.1
  refine jp_d (cz_136 hV hG hT hL ⟨hYs.1, hY.2.1⟩ r_a1) (fun rv I' R' hq => ?_) (fun E I' R' hq => ?_)
  · obtain ⟨q0, q1, q2, q3, q4⟩ := hq
    refine ⟨ec_n (by unfold oe_1; simp only [ec_w, ec_0]) q0, q1, ?_⟩
    unfold os_1
    obtain ⟨z, hz⟩ : ∃ z, z = lno (yz_b s) a1.toNat := ⟨_, rfl⟩
    rw [← hz] at q2 q4 ⊢
    have hyy := hYs.2.2
    have hTP : TPB I' a0 [] := ⟨q3, Nat.zero_le _, fun k x hk => by cases hk⟩
    have hlo := hG.2.1.2
    have hll := hL.2
    cases z with
    | error er =>
      obtain ⟨hR, hf⟩ := q4
      rw [hR]
      have ek : ∀ q, y ≤ q → q < y + 12 → I' q = I q := fun q h1 h2 => hf q (by omega) (by omega)
      have hLD : LD I' ld (yz_l s) := LD_of hG.2.2.1 (fun q h1 h2 => hf q (by omega) (by omega))
      refine ⟨⟨ld, l2, y, y2, ⟨hG.1, hG.2.1, hLD, hG.2.2.2.1, SX_of hG.2.2.2.2.1 (fun q h1 h2 => hf q (by omega) (by omega)), hC, by rw [hf _ (by omega) (by omega)]; exact hG.2.2.2.2.2.2⟩, hL, hYs, ⟨hY.1, hY.2.1, CPS_of hY.2.2.1 ek, CPV_of hY.2.2.2.1 ek, by rw [ek (y + 3) (by omega) (by omega)]; exact hY.2.2.2.2⟩, hTP, q2, EV_fr hE (hf _ (by omega) (by omega)) (hf _ (by omega) (by omega)), ⟨by rw [hf _ (by omega) (by omega)]; exact hI.1, fun k e he => SX_of (hI.2 k e he) (fun q h1 h2 => hf q (by omega) (by omega))⟩, by rw [hf _ (by omega) (by omega)]; exact hr⟩, ⟨hg.1, hg.2.1, hg.2.2.1, Nat.zero_le _, hg.2.2.2.2⟩, fun q hq => ⟨hf q (by omega) (by omega), rfl⟩⟩
    | ok L =>
      obtain ⟨hG2, hR, ⟨g1, g2, g3, g4⟩, hf, hk0, hk35⟩ := q4
      have hRo : ∀ q, q ≠ a0 → R' q = R q := fun q hq => by rw [hR]; exact funext fun k => by rw [jx_u_a _ _ _ _ hq, jx_u_a _ _ _ _ hq]
      refine ⟨⟨l2, ld, y, y2, hG2, ⟨by rw [hR, jx_u_s], by omega⟩, ⟨by rw [hR, jx_u_k _ _ _ _ (by decide), jx_u_k _ _ _ _ (by decide)]; exact hYs.1, by rw [hR, jx_u_k _ _ _ _ (by decide), jx_u_k _ _ _ _ (by decide)]; exact hYs.2.1, hyy⟩, ⟨by rw [hR, jx_u_k _ _ _ _ (by decide), jx_u_k _ _ _ _ (by decide)]; exact hYs.1, hY.2.1, ⟨g3, fun k e he => by cases he⟩, fun k e he => (by cases he), ⟨Nat.le_refl 0, fun h0 => absurd h0 (Nat.lt_irrefl 0)⟩⟩, hTP, q2, EV_6 hE g2 (hf _ (by omega) (by omega) (by omega) (by omega) (by omega) (by omega)), ⟨g1, fun k e he => by cases he⟩, by rw [hf _ (by omega) (by omega) (by omega) (by omega) (by omega) (by omega)]; exact hr⟩, ⟨hG2.2.2.2.1, hG2.2.2.2.2.2.1, WP_0, Nat.zero_le _, Nat.zero_le _, fun e he => by cases he⟩, fun q hq => ⟨hf q (by omega) (by omega) (by omega) (by omega) (by omega) (by omega), hRo q (by omega)⟩⟩
  · obtain ⟨k, q1, q2, q3, rfl⟩ := hq
    exact KE_r h hg (by unfold oe_1; simp only [ec_w, ec_0]) ⟨q1, q2, q3⟩
