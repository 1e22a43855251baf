/-! ===== the law: its loop, its beginning ===== -/
def cd_h : List jx_row := [(0, (.new 8), 3, 11, 16, 0), (3, .dup, 4, 0, 0, 0), (4, (.invokespecial 145), 7, 134, 0, 3), (7, (.astore_n 1), 8, 0, 0, 0), (8, (.new 146), 11, 12, 71, 0), (11, .dup, 12, 0, 0, 0), (12, (.invokespecial 148), 15, 199, 0, 3), (15, (.astore_n 2), 16, 0, 0, 0), (16, (.iconst 1), 17, 0, 0, 0), (17, (.newarray .long), 19, 101, 0, 0), (19, (.astore_n 3), 20, 0, 0, 0), (20, (.iconst 0), 21, 0, 0, 0), (21, (.istore 4), 23, 0, 0, 0), (23, (.iload 4), 25, 0, 0, 0), (25, (.aload_n 0), 26, 0, 0, 0), (26, .arraylength, 27, 0, 0, 0), (27, (.bipush 6), 29, 0, 0, 0), (29, .isub, 30, 0, 0, 0), (30, (.if_icmp .gt 3138), 33, 3168, 0, 0), (33, (.aload_n 0), 34, 0, 0, 0), (34, (.iload 4), 36, 0, 0, 0), (36, .iaload, 37, 0, 0, 0), (37, (.bipush 63), 39, 0, 0, 0), (39, .iand, 40, 0, 0, 0), (40, (.tableswitch 3122 0 51 #[224, 297, 353, 366, 422, 478, 546, 614, 694, 774, 842, 942, 967, 1023, 1091, 1159, 1259, 1284, 1340, 1396, 1452, 1496, 1509, 1588, 1656, 1712, 1768, 1824, 1892, 1905, 1961, 2029, 2085, 2153, 2245, 2301, 2369, 2449, 2517, 2530, 2610, 2666, 2734, 2802, 2858, 2933, 2946, 2990, 3046, 3059, 3072, 3097]), 264, 0, 0, 0), (3162, (.iinc 4 6), 3165, 0, 0, 0), (3165, (.goto (-3142)), 3168, 23, 0, 0), (3168, (.iconst 1), 3169, 0, 0, 0), (3169, .ireturn, 3170, 0, 0, 0)]
theorem cs_h : cd_h.all (fun q => decide (jx_at jx_c377 q.1 = some q.2)) = true := by decide +kernel
set_option maxHeartbeats 4000000 in
set_option maxRecDepth 20000 in
/-- the loop -/
theorem law_loop {V : jx_V} (hV : V.1.stackTraces = false) {J : jx_Jt} {KX : String → Nat × Nat → jx_X → jx_I → jx_R → Prop} (hS0 : jx_Snd V 205 (some .boolean) [] false jx_c377 J (fun rv _ _ _ _ => rv = some (.int 1)) KX) (hn : V.2.2.2.2.2.2.1 ≤ 3072) {a u : Nat} : ∀ (f : Nat) (i : Int) (X : jx_X) (I : jx_I) (R : jx_R) (s : YZ) (b : Nat × Nat), ((V.2.2.2.2.2.2.1 : Nat) : Int) - i ≤ f → LJ X R I a u s → 0 ≤ i → i ≤ 3072 → ((V.2.2.2.2.2.2.1 : Nat) : Int) - i ≤ b.1 → 4 * (((V.2.2.2.2.2.2.1 : Nat) : Int) - i) ≤ b.2 → J 23 [] [some (.ref V.2.2.2.2.2.1), some (.ref a), some (.ref (a + 147)), some (.ref u), some (jy i), none, none, none] b X I R := by
  have hS := jx_piece hS0 cs_h
  intro f
  induction f using Nat.strongRecOn with
  | ind f ih =>
    intro i X I R s b hf h hi hi3 hb1 hb2
    refine jy_iload hS rfl rfl ?_
    refine jy_aload_n hS rfl rfl ?_
    refine jy_slen hS rfl ?_
    refine jy_bipush hS rfl (by decide) ?_
    refine jy_isub hS rfl ?_
    refine jy_icmp_gt hS rfl ⟨by omega, by omega⟩ (fun hq => ?_) (fun hq => ?_)
    · refine jy_iconst hS rfl ?_
      exact jy_iret hS rfl rfl rfl
    · have hk : ∀ (X' : jx_X) (I' : jx_I) (R' : jx_R) (s' : YZ) (b' : Nat × Nat), LJ X' R' I' a u s' → b.1 ≤ b'.1 + 4 ∧ b.2 ≤ b'.2 + 24 → J 3162 [] [some (.ref V.2.2.2.2.2.1), some (.ref a), some (.ref (a + 147)), some (.ref u), some (jy i), none, none, none] b' X' I' R' := by
        intro X' I' R' s' b' h' hb'
        refine jy_iinc hS rfl rfl (L' := [some (.ref V.2.2.2.2.2.1), some (.ref a), some (.ref (a + 147)), some (.ref u), some (jy (i + 6)), none, none, none]) rfl ?_
        refine jy_goto hS rfl ?_
        exact ih (f - 6) (by omega) (i + 6) X' I' R' s' b' (by omega) h' (by omega) (by omega) (by omega) (by omega)
      refine jy_aload_n hS rfl rfl ?_
      refine jy_iload hS rfl rfl ?_
      refine jy_sld hS rfl (by omega) (by omega) ?_
      refine jy_bipush hS rfl (by decide) ?_
      refine jy_iandX hS rfl rfl ?_
      obtain ⟨x, hx⟩ : ∃ x : Int, x = ((fun x y : Int32 => x &&& y) (Int32.ofInt (V.2.2.2.2.2.2.2 i.toNat).toInt) (Int32.ofInt 63)).toInt := ⟨_, rfl⟩
      have hxr := jy_rng ((fun x y : Int32 => x &&& y) (Int32.ofInt (V.2.2.2.2.2.2.2 i.toNat).toInt) (Int32.ofInt 63))
      rw [← hx] at hxr ⊢
      refine jy_tsw hS rfl hxr (fun hq2 => ?_) (fun hq8 hq2 => ?_)
      · refine ⟨by decide, ?_⟩
        change J 3162 _ _ _ _ _ _
        exact hk X I R s b h ⟨by omega, by omega⟩
      have hq7 : x = 0 ∨ x = 1 ∨ x = 2 ∨ x = 3 ∨ x = 4 ∨ x = 5 ∨ x = 6 ∨ x = 7 ∨ x = 8 ∨ x = 9 ∨ x = 10 ∨ x = 11 ∨ x = 12 ∨ x = 13 ∨ x = 14 ∨ x = 15 ∨ x = 16 ∨ x = 17 ∨ x = 18 ∨ x = 19 ∨ x = 20 ∨ x = 21 ∨ x = 22 ∨ x = 23 ∨ x = 24 ∨ x = 25 ∨ x = 26 ∨ x = 27 ∨ x = 28 ∨ x = 29 ∨ x = 30 ∨ x = 31 ∨ x = 32 ∨ x = 33 ∨ x = 34 ∨ x = 35 ∨ x = 36 ∨ x = 37 ∨ x = 38 ∨ x = 39 ∨ x = 40 ∨ x = 41 ∨ x = 42 ∨ x = 43 ∨ x = 44 ∨ x = 45 ∨ x = 46 ∨ x = 47 ∨ x = 48 ∨ x = 49 ∨ x = 50 ∨ x = 51 := by omega
      rcases hq7 with hq7 | hq7 | hq7 | hq7 | hq7 | hq7 | hq7 | hq7 | hq7 | hq7 | hq7 | hq7 | hq7 | hq7 | hq7 | hq7 | hq7 | hq7 | hq7 | hq7 | hq7 | hq7 | hq7 | hq7 | hq7 | hq7 | hq7 | hq7 | hq7 | hq7 | hq7 | hq7 | hq7 | hq7 | hq7 | hq7 | hq7 | hq7 | hq7 | hq7 | hq7 | hq7 | hq7 | hq7 | hq7 | hq7 | hq7 | hq7 | hq7 | hq7 | hq7 | hq7
      · refine ⟨224, by rw [hq7]; rfl, by decide, ?_⟩
        change J 264 _ _ _ _ _ _
        exact cl_0 hV hS0 h (by omega) hn (by omega) hk
      · refine ⟨297, by rw [hq7]; rfl, by decide, ?_⟩
        change J 337 _ _ _ _ _ _
        exact cl_1 hV hS0 h (by omega) hn (by omega) hk
      · refine ⟨353, by rw [hq7]; rfl, by decide, ?_⟩
        change J 393 _ _ _ _ _ _
        exact cl_2 hV hS0 h (by omega) hn (by omega) hk
      · refine ⟨366, by rw [hq7]; rfl, by decide, ?_⟩
        change J 406 _ _ _ _ _ _
        exact cl_3 hV hS0 h (by omega) hn (by omega) hk
      · refine ⟨422, by rw [hq7]; rfl, by decide, ?_⟩
        change J 462 _ _ _ _ _ _
        exact cl_4 hV hS0 h (by omega) hn (by omega) hk
      · refine ⟨478, by rw [hq7]; rfl, by decide, ?_⟩
        change J 518 _ _ _ _ _ _
        exact cl_5 hV hS0 h (by omega) hn (by omega) hk
      · refine ⟨546, by rw [hq7]; rfl, by decide, ?_⟩
        change J 586 _ _ _ _ _ _
        exact cl_6 hV hS0 h (by omega) hn (by omega) hk
      · refine ⟨614, by rw [hq7]; rfl, by decide, ?_⟩
        change J 654 _ _ _ _ _ _
        exact cl_7 hV hS0 h (by omega) hn (by omega) hk
      · refine ⟨694, by rw [hq7]; rfl, by decide, ?_⟩
        change J 734 _ _ _ _ _ _
        exact cl_8 hV hS0 h (by omega) hn (by omega) hk
      · refine ⟨774, by rw [hq7]; rfl, by decide, ?_⟩
        change J 814 _ _ _ _ _ _
        exact cl_9 hV hS0 h (by omega) hn (by omega) hk
      · refine ⟨842, by rw [hq7]; rfl, by decide, ?_⟩
        change J 882 _ _ _ _ _ _
        exact cl_10 hV hS0 h (by omega) hn (by omega) hk
      · refine ⟨942, by rw [hq7]; rfl, by decide, ?_⟩
        change J 982 _ _ _ _ _ _
        exact cl_11 hV hS0 h (by omega) hn (by omega) hk
      · refine ⟨967, by rw [hq7]; rfl, by decide, ?_⟩
        change J 1007 _ _ _ _ _ _
        exact cl_12 hV hS0 h (by omega) hn (by omega) hk
      · refine ⟨1023, by rw [hq7]; rfl, by decide, ?_⟩
        change J 1063 _ _ _ _ _ _
        exact cl_13 hV hS0 h (by omega) hn (by omega) hk
      · refine ⟨1091, by rw [hq7]; rfl, by decide, ?_⟩
        change J 1131 _ _ _ _ _ _
        exact cl_14 hV hS0 h (by omega) hn (by omega) hk
      · refine ⟨1159, by rw [hq7]; rfl, by decide, ?_⟩
        change J 1199 _ _ _ _ _ _
        exact cl_15 hV hS0 h (by omega) hn (by omega) hk
      · refine ⟨1259, by rw [hq7]; rfl, by decide, ?_⟩
        change J 1299 _ _ _ _ _ _
        exact cl_16 hV hS0 h (by omega) hn (by omega) hk
      · refine ⟨1284, by rw [hq7]; rfl, by decide, ?_⟩
        change J 1324 _ _ _ _ _ _
        exact cl_17 hV hS0 h (by omega) hn (by omega) hk
      · refine ⟨1340, by rw [hq7]; rfl, by decide, ?_⟩
        change J 1380 _ _ _ _ _ _
        exact cl_18 hV hS0 h (by omega) hn (by omega) hk
      · refine ⟨1396, by rw [hq7]; rfl, by decide, ?_⟩
        change J 1436 _ _ _ _ _ _
        exact cl_19 hV hS0 h (by omega) hn (by omega) hk
      · refine ⟨1452, by rw [hq7]; rfl, by decide, ?_⟩
        change J 1492 _ _ _ _ _ _
        exact cl_20 hV hS0 h (by omega) hn (by omega) hk
      · refine ⟨1496, by rw [hq7]; rfl, by decide, ?_⟩
        change J 1536 _ _ _ _ _ _
        exact cl_21 hV hS0 h (by omega) hn (by omega) hk
      · refine ⟨1509, by rw [hq7]; rfl, by decide, ?_⟩
        change J 1549 _ _ _ _ _ _
        exact cl_22 hV hS0 h (by omega) hn (by omega) hk
      · refine ⟨1588, by rw [hq7]; rfl, by decide, ?_⟩
        change J 1628 _ _ _ _ _ _
        exact cl_23 hV hS0 h (by omega) hn (by omega) hk
      · refine ⟨1656, by rw [hq7]; rfl, by decide, ?_⟩
        change J 1696 _ _ _ _ _ _
        exact cl_24 hV hS0 h (by omega) hn (by omega) hk
      · refine ⟨1712, by rw [hq7]; rfl, by decide, ?_⟩
        change J 1752 _ _ _ _ _ _
        exact cl_25 hV hS0 h (by omega) hn (by omega) hk
      · refine ⟨1768, by rw [hq7]; rfl, by decide, ?_⟩
        change J 1808 _ _ _ _ _ _
        exact cl_26 hV hS0 h (by omega) hn (by omega) hk
      · refine ⟨1824, by rw [hq7]; rfl, by decide, ?_⟩
        change J 1864 _ _ _ _ _ _
        exact cl_27 hV hS0 h (by omega) hn (by omega) hk
      · refine ⟨1892, by rw [hq7]; rfl, by decide, ?_⟩
        change J 1932 _ _ _ _ _ _
        exact cl_28 hV hS0 h (by omega) hn (by omega) hk
      · refine ⟨1905, by rw [hq7]; rfl, by decide, ?_⟩
        change J 1945 _ _ _ _ _ _
        exact cl_29 hV hS0 h (by omega) hn (by omega) hk
      · refine ⟨1961, by rw [hq7]; rfl, by decide, ?_⟩
        change J 2001 _ _ _ _ _ _
        exact cl_30 hV hS0 h (by omega) hn (by omega) hk
      · refine ⟨2029, by rw [hq7]; rfl, by decide, ?_⟩
        change J 2069 _ _ _ _ _ _
        exact cl_31 hV hS0 h (by omega) hn (by omega) hk
      · refine ⟨2085, by rw [hq7]; rfl, by decide, ?_⟩
        change J 2125 _ _ _ _ _ _
        exact cl_32 hV hS0 h (by omega) hn (by omega) hk
      · refine ⟨2153, by rw [hq7]; rfl, by decide, ?_⟩
        change J 2193 _ _ _ _ _ _
        exact cl_33 hV hS0 h (by omega) hn (by omega) hk
      · refine ⟨2245, by rw [hq7]; rfl, by decide, ?_⟩
        change J 2285 _ _ _ _ _ _
        exact cl_34 hV hS0 h (by omega) hn (by omega) hk
      · refine ⟨2301, by rw [hq7]; rfl, by decide, ?_⟩
        change J 2341 _ _ _ _ _ _
        exact cl_35 hV hS0 h (by omega) hn (by omega) hk
      · refine ⟨2369, by rw [hq7]; rfl, by decide, ?_⟩
        change J 2409 _ _ _ _ _ _
        exact cl_36 hV hS0 h (by omega) hn (by omega) hk
      · refine ⟨2449, by rw [hq7]; rfl, by decide, ?_⟩
        change J 2489 _ _ _ _ _ _
        exact cl_37 hV hS0 h (by omega) hn (by omega) hk
      · refine ⟨2517, by rw [hq7]; rfl, by decide, ?_⟩
        change J 2557 _ _ _ _ _ _
        exact cl_38 hV hS0 h (by omega) hn (by omega) hk
      · refine ⟨2530, by rw [hq7]; rfl, by decide, ?_⟩
        change J 2570 _ _ _ _ _ _
        exact cl_39 hV hS0 h (by omega) hn (by omega) hk
      · refine ⟨2610, by rw [hq7]; rfl, by decide, ?_⟩
        change J 2650 _ _ _ _ _ _
        exact cl_40 hV hS0 h (by omega) hn (by omega) hk
      · refine ⟨2666, by rw [hq7]; rfl, by decide, ?_⟩
        change J 2706 _ _ _ _ _ _
        exact cl_41 hV hS0 h (by omega) hn (by omega) hk
      · refine ⟨2734, by rw [hq7]; rfl, by decide, ?_⟩
        change J 2774 _ _ _ _ _ _
        exact cl_42 hV hS0 h (by omega) hn (by omega) hk
      · refine ⟨2802, by rw [hq7]; rfl, by decide, ?_⟩
        change J 2842 _ _ _ _ _ _
        exact cl_43 hV hS0 h (by omega) hn (by omega) hk
      · refine ⟨2858, by rw [hq7]; rfl, by decide, ?_⟩
        change J 2898 _ _ _ _ _ _
        exact cl_44 hV hS0 h (by omega) hn (by omega) hk
      · refine ⟨2933, by rw [hq7]; rfl, by decide, ?_⟩
        change J 2973 _ _ _ _ _ _
        exact cl_45 hV hS0 h (by omega) hn (by omega) hk
      · refine ⟨2946, by rw [hq7]; rfl, by decide, ?_⟩
        change J 2986 _ _ _ _ _ _
        exact cl_46 hV hS0 h (by omega) hn (by omega) hk
      · refine ⟨2990, by rw [hq7]; rfl, by decide, ?_⟩
        change J 3030 _ _ _ _ _ _
        exact cl_47 hV hS0 h (by omega) hn (by omega) hk
      · refine ⟨3046, by rw [hq7]; rfl, by decide, ?_⟩
        change J 3086 _ _ _ _ _ _
        exact cl_48 hV hS0 h (by omega) hn (by omega) hk
      · refine ⟨3059, by rw [hq7]; rfl, by decide, ?_⟩
        change J 3099 _ _ _ _ _ _
        exact cl_49 hV hS0 h (by omega) hn (by omega) hk
      · refine ⟨3072, by rw [hq7]; rfl, by decide, ?_⟩
        change J 3112 _ _ _ _ _ _
        exact cl_50 hV hS0 h (by omega) hn (by omega) hk
      · refine ⟨3097, by rw [hq7]; rfl, by decide, ?_⟩
        change J 3137 _ _ _ _ _ _
        exact cl_51 hV hS0 h (by omega) hn (by omega) hk
theorem CI_bx {X X' : jx_X} {R : jx_R} {I : jx_I} {b : Nat} {s : YZ} (h : CI X R I b s) (hB : BX X' R b TGC) : CI X' R I b s := by
  obtain ⟨ld, l2, y, y2, hG, hL⟩ := h
  exact ⟨ld, l2, y, y2, ⟨hB, hG.2⟩, hL⟩
set_option maxHeartbeats 4000000 in
set_option maxRecDepth 20000 in
/-- the beginning -/
theorem law_J0 {V : jx_V} (hV : V.1.stackTraces = false) {J : jx_Jt} {KX : String → Nat × Nat → jx_X → jx_I → jx_R → Prop} (hS0 : jx_Snd V 205 (some .boolean) [] false jx_c377 J (fun rv _ _ _ _ => rv = some (.int 1)) KX) (hn : V.2.2.2.2.2.2.1 ≤ 3072) {X : jx_X} {I : jx_I} {R : jx_R} {b : Nat × Nat} (hb : 6000 ≤ b.1 ∧ 100000 ≤ b.2) : J 0 [] [some (.ref V.2.2.2.2.2.1), none, none, none, none, none, none, none] b X I R := by
  have hS := jx_piece hS0 cs_h
  have e16 : jx_fn 11 = 16 := by decide +kernel
  have e71 : jx_fn 12 = 71 := by decide +kernel
  have e1n : (1 : Int).toNat = 1 := rfl
  refine jy_new hS rfl (by decide) ⟨by omega, (by omega)⟩ ?_
  refine jy_dup hS rfl rfl ?_
  refine jy_callI hS rfl (by decide) rfl rfl (Nat.zero_le _) ?_ (cm_134 hV (a := X.1) (S := X.2.1) (G := X.2.2) (I := I) (R := R)) (by decide) ⟨(by show 146 ≤ b.1 - 1; omega), (by show 32623 ≤ b.2 - jx_fn 11; omega)⟩ (Nat.le_of_ble_eq_true rfl) ?_ (fun _ _ _ _ q => q.elim)
  · show jx_up X.2.1 X.1 (11, 0) X.1 = some (jx_ow 134, 0)
    unfold jx_up
    rw [if_pos rfl]
    rfl
  rintro rv X1 I1 R1 ⟨rfl, hX1, hI1, hR1⟩
  have hC1 : CI X1 R1 I1 X.1 yz0 := by rw [hX1, hI1, hR1]; exact CI_0
  have hs1 : X1.1 = X.1 + 147 := by rw [hX1]; rfl
  clear hX1 hI1 hR1
  obtain ⟨a, ha⟩ : ∃ a, a = X.1 := ⟨_, rfl⟩
  rw [← ha] at hC1 hs1 ⊢
  change J 7 [.ref a] [some (.ref V.2.2.2.2.2.1), none, none, none, none, none, none, none] _ _ _ _
  refine jy_astore_n hS rfl (Nat.le_of_ble_eq_true rfl) (L' := [some (.ref V.2.2.2.2.2.1), some (.ref a), none, none, none, none, none, none]) rfl ?_
  refine jy_new hS rfl (by decide) ⟨(by show 1 ≤ b.1 - 1 - 146; omega), (by show jx_fn 12 ≤ b.2 - jx_fn 11 - 32623; omega)⟩ ?_
  refine jy_dup hS rfl rfl ?_
  refine jy_callI hS rfl (by decide) rfl rfl (Nat.zero_le _) ?_ (cm_199 hV (m := X1.1) (S := X1.2.1) (G := X1.2.2) (I := I1) (R := R1)) (by decide) ⟨(by show 2176 ≤ b.1 - 1 - 146 - 1; omega), (by show 35928 ≤ b.2 - jx_fn 11 - 32623 - jx_fn 12; omega)⟩ (Nat.le_of_ble_eq_true rfl) ?_ (fun _ _ _ _ q => q.elim)
  · show jx_up X1.2.1 X1.1 (12, 0) X1.1 = some (jx_ow 199, 0)
    unfold jx_up
    rw [if_pos rfl]
    rfl
  rintro rv X2 I2 R2 ⟨rfl, hX2, hR2, hM2, hf2⟩
  rw [hs1] at hX2 hR2 hM2 hf2
  rw [← hX2, ← hR2] at hM2
  have hBX := CI_b hC1
  have hC2 : CI X2 R2 I2 a yz0 := by
    have hRq : ∀ q, a ≤ q → q < a + 147 → R2 q = R1 q := fun q _ h2 => by rw [hR2, xeR_lt h2]
    have h1 : CI X1 R2 I2 a yz0 := CI_fr hC1 ZG_0 (fun _ _ _ => rfl) (fun q _ h2 => hf2 q h2) hRq
    refine CI_bx h1 (fun k en hk => ?_)
    have hk2 : k < 147 := gi_lt hk
    have h3 := CI_b h1 k en hk
    refine ⟨?_, h3.2⟩
    rw [hX2]
    show xeS (a + 147) X1.2.1 lg2 (a + k) = _
    rw [xeS_lt (by omega)]
    exact h3.1
  have hs2 : X2.1 = a + 147 + 2177 := by rw [hX2]; rfl
  rw [hs1]
  clear hX2 hR2 hf2 hBX hC1
  change J 15 [.ref (a + 147)] [some (.ref V.2.2.2.2.2.1), some (.ref a), none, none, none, none, none, none] _ _ _ _
  refine jy_astore_n hS rfl (Nat.le_of_ble_eq_true rfl) (L' := [some (.ref V.2.2.2.2.2.1), some (.ref a), some (.ref (a + 147)), none, none, none, none, none]) rfl ?_
  refine jy_iconst hS rfl ?_
  refine jy_newarr hS rfl ⟨by decide, by decide⟩ ⟨(by show 1 ≤ b.1 - 1 - 146 - 1 - 2176; omega), (by show (1 : Int).toNat ≤ b.2 - jx_fn 11 - 32623 - jx_fn 12 - 35928; omega)⟩ ?_
  refine jy_astore_n hS rfl (Nat.le_of_ble_eq_true rfl) (L' := [some (.ref V.2.2.2.2.2.1), some (.ref a), some (.ref (a + 147)), some (.ref X2.1), none, none, none, none]) rfl ?_
  refine jy_iconst hS rfl ?_
  refine jy_istore hS rfl (Nat.le_of_ble_eq_true rfl) (L' := [some (.ref V.2.2.2.2.2.1), some (.ref a), some (.ref (a + 147)), some (.ref X2.1), some (jy 0), none, none, none]) rfl ?_
  refine law_loop hV hS0 hn 3072 0 _ _ _ yz0 _ (by omega) ⟨?_, ?_, ZG_0, ?_⟩ (by decide) (by decide) (by show _ ≤ ((b.1 - 1 - 146 - 1 - 2176 - 1 : Nat) : Int); omega) ?_
  · refine CI_fr hC2 ZG_0 (fun q _ h2 => ?_) (fun q _ h2 => ?_) (fun q _ h2 => ?_)
    · show jx_up X2.2.1 X2.1 _ q = _
      unfold jx_up
      rw [if_neg (by omega)]
    · funext k
      unfold jx_z
      rw [if_neg (by omega)]
    · funext k
      unfold jx_n
      rw [if_neg (by omega)]
  · refine MI_fr hM2 ZG_0 (fun q _ h2 => ?_) (fun q _ h2 => ?_) (fun q _ h2 => ?_)
    · show jx_up X2.2.1 X2.1 _ q = _
      unfold jx_up
      rw [if_neg (by omega)]
    · funext k
      unfold jx_z
      rw [if_neg (by omega)]
    · funext k
      unfold jx_n
      rw [if_neg (by omega)]
  · show jx_up X2.2.1 X2.1 (101, (1 : Int).toNat) X2.1 = some (101, 1)
    unfold jx_up
    rw [if_pos rfl]
    rfl
  · show _ ≤ ((b.2 - jx_fn 11 - 32623 - jx_fn 12 - 35928 - (1 : Int).toNat : Nat) : Int)
    omega
