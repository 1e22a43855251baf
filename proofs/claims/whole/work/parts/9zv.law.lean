/-! ===== the law, case by case: 9zv ===== -/
def cd_0 : List jx_row := [(264, (.aload_n 1), 265, 0, 0, 0), (265, (.aload_n 0), 266, 0, 0, 0), (266, (.iload 4), 268, 0, 0, 0), (268, (.iconst 1), 269, 0, 0, 0), (269, .iadd, 270, 0, 0, 0), (270, .iaload, 271, 0, 0, 0), (271, (.aload_n 0), 272, 0, 0, 0), (272, (.iload 4), 274, 0, 0, 0), (274, (.iconst 2), 275, 0, 0, 0), (275, .iadd, 276, 0, 0, 0), (276, .iaload, 277, 0, 0, 0), (277, (.aload_n 0), 278, 0, 0, 0), (278, (.iload 4), 280, 0, 0, 0), (280, (.iconst 3), 281, 0, 0, 0), (281, .iadd, 282, 0, 0, 0), (282, .iaload, 283, 0, 0, 0), (283, (.aload_n 0), 284, 0, 0, 0), (284, (.iload 4), 286, 0, 0, 0), (286, (.iconst 4), 287, 0, 0, 0), (287, .iadd, 288, 0, 0, 0), (288, .iaload, 289, 0, 0, 0), (289, (.aload_n 0), 290, 0, 0, 0), (290, (.iload 4), 292, 0, 0, 0), (292, (.iconst 5), 293, 0, 0, 0), (293, .iadd, 294, 0, 0, 0), (294, .iaload, 295, 0, 0, 0), (295, (.invokevirtual 149), 298, 135, 5, 0), (298, (.aload_n 2), 299, 0, 0, 0), (299, (.aload_n 0), 300, 0, 0, 0), (300, (.iload 4), 302, 0, 0, 0), (302, (.iconst 1), 303, 0, 0, 0), (303, .iadd, 304, 0, 0, 0), (304, .iaload, 305, 0, 0, 0), (305, (.aload_n 0), 306, 0, 0, 0), (306, (.iload 4), 308, 0, 0, 0), (308, (.iconst 2), 309, 0, 0, 0), (309, .iadd, 310, 0, 0, 0), (310, .iaload, 311, 0, 0, 0), (311, (.aload_n 0), 312, 0, 0, 0), (312, (.iload 4), 314, 0, 0, 0), (314, (.iconst 3), 315, 0, 0, 0), (315, .iadd, 316, 0, 0, 0), (316, .iaload, 317, 0, 0, 0), (317, (.aload_n 0), 318, 0, 0, 0), (318, (.iload 4), 320, 0, 0, 0), (320, (.iconst 4), 321, 0, 0, 0), (321, .iadd, 322, 0, 0, 0), (322, .iaload, 323, 0, 0, 0), (323, (.aload_n 0), 324, 0, 0, 0), (324, (.iload 4), 326, 0, 0, 0), (326, (.iconst 5), 327, 0, 0, 0), (327, .iadd, 328, 0, 0, 0), (328, .iaload, 329, 0, 0, 0), (329, (.invokevirtual 153), 332, 205, 5, 0), (332, (.if_icmp .eq 2830), 335, 3162, 0, 0), (335, (.iconst 0), 336, 0, 0, 0), (336, .ireturn, 337, 0, 0, 0)]
theorem cs_0 : cd_0.all (fun q => decide (jx_at jx_c377 q.1 = some q.2)) = true := by decide +kernel
set_option maxRecDepth 20000 in
theorem cl_0 {V : jx_V} (hV : V.1.stackTraces = false) {rt : Option FieldType} {J : jx_Jt} {KR : Option Value → Nat × Nat → jx_X → jx_I → jx_R → Prop} {KX : String → Nat × Nat → jx_X → jx_I → jx_R → Prop} (hS : jx_Snd V 205 rt [] false jx_c377 J KR KX) {X : jx_X} {R : jx_R} {I : jx_I} {a u : Nat} {s : YZ} {i : Int} {b : Nat × Nat} (h : LJ X R I a u s) (hi : 0 ≤ i ∧ i + 6 ≤ (V.2.2.2.2.2.2.1 : Nat)) (hn : V.2.2.2.2.2.2.1 ≤ 3072) (hb : 4 ≤ b.1 ∧ 24 ≤ b.2)
    (k : ∀ (X' : jx_X) (I' : jx_I) (R' : jx_R) (s' : YZ) (b' : Nat × Nat), LJ X' R' I' a u s' → b.1 ≤ b'.1 + 4 ∧ b.2 ≤ b'.2 + 24 → J 3162 [] [some (.ref V.2.2.2.2.2.1), some (.ref a), some (.ref (a + 147)), some (.ref u), some (jy i), none, none, none] b' X' I' R') : J 264 [] [some (.ref V.2.2.2.2.2.1), some (.ref a), some (.ref (a + 147)), some (.ref u), some (jy i), none, none, none] b X I R := by
  have hS := jx_piece hS cs_0
  refine jy_aload_n hS rfl rfl ?_
  refine jy_aload_n hS rfl rfl ?_
  refine jy_iload hS rfl rfl ?_
  refine jy_iconst hS rfl ?_
  refine jy_iadd hS rfl ?_
  refine jy_sld hS rfl (by omega) (by omega) ?_
  refine jy_aload_n hS rfl rfl ?_
  refine jy_iload hS rfl rfl ?_
  refine jy_iconst hS rfl ?_
  refine jy_iadd hS rfl ?_
  refine jy_sld hS rfl (by omega) (by omega) ?_
  refine jy_aload_n hS rfl rfl ?_
  refine jy_iload hS rfl rfl ?_
  refine jy_iconst hS rfl ?_
  refine jy_iadd hS rfl ?_
  refine jy_sld hS rfl (by omega) (by omega) ?_
  refine jy_aload_n hS rfl rfl ?_
  refine jy_iload hS rfl rfl ?_
  refine jy_iconst hS rfl ?_
  refine jy_iadd hS rfl ?_
  refine jy_sld hS rfl (by omega) (by omega) ?_
  refine jy_aload_n hS rfl rfl ?_
  refine jy_iload hS rfl rfl ?_
  refine jy_iconst hS rfl ?_
  refine jy_iadd hS rfl ?_
  refine jy_sld hS rfl (by omega) (by omega) ?_
  obtain ⟨Q0, QE0, hK, k1, k2⟩ := kc_0 hV (a1 := (V.2.2.2.2.2.2.2 (i + 1).toNat).toInt) (a2 := (V.2.2.2.2.2.2.2 (i + 2).toNat).toInt) (a3 := (V.2.2.2.2.2.2.2 (i + 3).toNat).toInt) (a4 := (V.2.2.2.2.2.2.2 (i + 4).toNat).toInt) (a5 := (V.2.2.2.2.2.2.2 (i + 5).toNat).toInt) h.1 h.2.2.1 (jy_rng _) (jy_rng _) (jy_rng _) (jy_rng _) (jy_rng _)
  refine jy_callV hS rfl rfl rfl (Nat.le_of_ble_eq_true rfl) (Or.inl (LJ_a h)) hK (by decide) ⟨Nat.zero_le _, Nat.zero_le _⟩ (Nat.le_of_ble_eq_true rfl) ?_ (fun _ _ _ _ q => (k2 _ _ _ q.2.2 : False).elim)
  rintro rv X1 I1 R1 ⟨e1, hq⟩
  rw [e1]
  obtain ⟨rfl, hC1, hg1, hf1⟩ := KQ_n (k1 _ _ _ hq)
  have hM1 := MI_B h.2.1 h.2.2.1 (X' := X) rfl hf1
  change J 298 [jy (ov_0 s ((V.2.2.2.2.2.2.2 (i + 1).toNat).toInt) ((V.2.2.2.2.2.2.2 (i + 2).toNat).toInt) ((V.2.2.2.2.2.2.2 (i + 3).toNat).toInt) ((V.2.2.2.2.2.2.2 (i + 4).toNat).toInt) ((V.2.2.2.2.2.2.2 (i + 5).toNat).toInt))] _ _ _ _ _
  refine jy_aload_n hS rfl rfl ?_
  refine jy_aload_n hS rfl rfl ?_
  refine jy_iload hS rfl rfl ?_
  refine jy_iconst hS rfl ?_
  refine jy_iadd hS rfl ?_
  refine jy_sld hS rfl (by omega) (by omega) ?_
  refine jy_aload_n hS rfl rfl ?_
  refine jy_iload hS rfl rfl ?_
  refine jy_iconst hS rfl ?_
  refine jy_iadd hS rfl ?_
  refine jy_sld hS rfl (by omega) (by omega) ?_
  refine jy_aload_n hS rfl rfl ?_
  refine jy_iload hS rfl rfl ?_
  refine jy_iconst hS rfl ?_
  refine jy_iadd hS rfl ?_
  refine jy_sld hS rfl (by omega) (by omega) ?_
  refine jy_aload_n hS rfl rfl ?_
  refine jy_iload hS rfl rfl ?_
  refine jy_iconst hS rfl ?_
  refine jy_iadd hS rfl ?_
  refine jy_sld hS rfl (by omega) (by omega) ?_
  refine jy_aload_n hS rfl rfl ?_
  refine jy_iload hS rfl rfl ?_
  refine jy_iconst hS rfl ?_
  refine jy_iadd hS rfl ?_
  refine jy_sld hS rfl (by omega) (by omega) ?_
  obtain ⟨Q1, QE1, hK2, m1, m2⟩ := mc_0 hV (a1 := (V.2.2.2.2.2.2.2 (i + 1).toNat).toInt) (a2 := (V.2.2.2.2.2.2.2 (i + 2).toNat).toInt) (a3 := (V.2.2.2.2.2.2.2 (i + 3).toNat).toInt) (a4 := (V.2.2.2.2.2.2.2 (i + 4).toNat).toInt) (a5 := (V.2.2.2.2.2.2.2 (i + 5).toNat).toInt) hM1 h.2.2.1 (jy_rng _) (jy_rng _) (jy_rng _) (jy_rng _) (jy_rng _)
  refine jy_callV hS rfl rfl rfl (Nat.le_of_ble_eq_true rfl) (Or.inl (MI_m hM1)) hK2 (by decide) ⟨Nat.zero_le _, Nat.zero_le _⟩ (Nat.le_of_ble_eq_true rfl) ?_ (fun _ _ _ _ q => (m2 _ _ _ q.2.2 : False).elim)
  rintro rv2 X2 I2 R2 ⟨e2, hq2⟩
  rw [e2]
  obtain ⟨eR, hf2, hM2, rfl⟩ := MQ_n (m1 _ _ _ hq2)
  rw [eR]
  have hL := LJ_2 hC1 (X' := X) rfl h.2.2.2 hg1 hf2 hM2
  change J 332 [jy (ov_0 s ((V.2.2.2.2.2.2.2 (i + 1).toNat).toInt) ((V.2.2.2.2.2.2.2 (i + 2).toNat).toInt) ((V.2.2.2.2.2.2.2 (i + 3).toNat).toInt) ((V.2.2.2.2.2.2.2 (i + 4).toNat).toInt) ((V.2.2.2.2.2.2.2 (i + 5).toNat).toInt)), jy (ov_0 s ((V.2.2.2.2.2.2.2 (i + 1).toNat).toInt) ((V.2.2.2.2.2.2.2 (i + 2).toNat).toInt) ((V.2.2.2.2.2.2.2 (i + 3).toNat).toInt) ((V.2.2.2.2.2.2.2 (i + 4).toNat).toInt) ((V.2.2.2.2.2.2.2 (i + 5).toNat).toInt))] _ _ _ _ _
  refine jy_icmp_s hS rfl ?_
  exact jy_join hS (k _ _ _ _ _ hL ⟨by (try dsimp only); omega, by (try dsimp only); omega⟩) rfl (jy_sub_s (jy_sub_s (jy_sub_s (jy_sub_s (jy_sub_s (jy_sub_n (jy_sub_n (jy_sub_n jy_sub_0))))))))
def cd_1 : List jx_row := [(337, (.aload_n 1), 338, 0, 0, 0), (338, (.aload_n 0), 339, 0, 0, 0), (339, (.iload 4), 341, 0, 0, 0), (341, (.iconst 1), 342, 0, 0, 0), (342, .iadd, 343, 0, 0, 0), (343, .iaload, 344, 0, 0, 0), (344, (.aload_n 3), 345, 0, 0, 0), (345, (.invokestatic 154), 348, 337, 3, 2), (348, (.istore 5), 350, 0, 0, 0), (350, (.aload_n 2), 351, 0, 0, 0), (351, (.aload_n 0), 352, 0, 0, 0), (352, (.iload 4), 354, 0, 0, 0), (354, (.iconst 1), 355, 0, 0, 0), (355, .iadd, 356, 0, 0, 0), (356, .iaload, 357, 0, 0, 0), (357, (.invokevirtual 159), 360, 228, 1, 0), (360, (.istore 6), 362, 0, 0, 0), (362, (.aload_n 2), 363, 0, 0, 0), (363, (.invokevirtual 160), 366, 201, 0, 0), (366, (.iload 5), 368, 0, 0, 0), (368, (.if_icmp .eq 5), 371, 373, 0, 0), (371, (.iconst 0), 372, 0, 0, 0), (372, .ireturn, 373, 0, 0, 0), (373, (.iload 5), 375, 0, 0, 0), (375, (.ifCond .ne 15), 378, 390, 0, 0), (378, (.aload_n 3), 379, 0, 0, 0), (379, (.iconst 0), 380, 0, 0, 0), (380, .laload, 381, 0, 0, 0), (381, (.iload 6), 383, 0, 0, 0), (383, .i2l, 384, 0, 0, 0), (384, .lcmp, 385, 0, 0, 0), (385, (.ifCond .eq 5), 388, 390, 0, 0), (388, (.iconst 0), 389, 0, 0, 0), (389, .ireturn, 390, 0, 0, 0), (390, (.goto 2772), 393, 3162, 0, 0)]
theorem cs_1 : cd_1.all (fun q => decide (jx_at jx_c377 q.1 = some q.2)) = true := by decide +kernel
theorem oe_i_1 {s : YZ} {a1 : Int} : ∀ k w, oe_1 s a1 = some (k, w) → (k, w) ∈ [((2 : Nat), (1 : Int))] := by
  unfold oe_1
  exact nzw_i (by decide) (fun _ _ h => by cases h)
set_option maxRecDepth 20000 in
theorem cl_1 {V : jx_V} (hV : V.1.stackTraces = false) {rt : Option FieldType} {J : jx_Jt} {KR : Option Value → Nat × Nat → jx_X → jx_I → jx_R → Prop} {KX : String → Nat × Nat → jx_X → jx_I → jx_R → Prop} (hS : jx_Snd V 205 rt [] false jx_c377 J KR KX) {X : jx_X} {R : jx_R} {I : jx_I} {a u : Nat} {s : YZ} {i : Int} {b : Nat × Nat} (h : LJ X R I a u s) (hi : 0 ≤ i ∧ i + 6 ≤ (V.2.2.2.2.2.2.1 : Nat)) (hn : V.2.2.2.2.2.2.1 ≤ 3072) (hb : 4 ≤ b.1 ∧ 24 ≤ b.2)
    (k : ∀ (X' : jx_X) (I' : jx_I) (R' : jx_R) (s' : YZ) (b' : Nat × Nat), LJ X' R' I' a u s' → b.1 ≤ b'.1 + 4 ∧ b.2 ≤ b'.2 + 24 → J 3162 [] [some (.ref V.2.2.2.2.2.1), some (.ref a), some (.ref (a + 147)), some (.ref u), some (jy i), none, none, none] b' X' I' R') : J 337 [] [some (.ref V.2.2.2.2.2.1), some (.ref a), some (.ref (a + 147)), some (.ref u), some (jy i), none, none, none] b X I R := by
  have hS := jx_piece hS cs_1
  refine jy_aload_n hS rfl rfl ?_
  refine jy_aload_n hS rfl rfl ?_
  refine jy_iload hS rfl rfl ?_
  refine jy_iconst hS rfl ?_
  refine jy_iadd hS rfl ?_
  refine jy_sld hS rfl (by omega) (by omega) ?_
  refine jy_aload_n hS rfl rfl ?_
  refine jy_callS hS rfl rfl rfl (Nat.le_of_ble_eq_true rfl) (wr_1 hV (LJ_a h) h.2.2.2 (kc_1 hV (a1 := (V.2.2.2.2.2.2.2 (i + 1).toNat).toInt) h.1 h.2.2.1 (jy_rng _)) oe_i_1) (by decide) ⟨by (try dsimp only); omega, by (try dsimp only); omega⟩ (Nat.le_of_ble_eq_true rfl) ?_ (fun _ _ _ _ q => q.elim)
  rintro rv X1 I1 R1 ⟨x1, x2, hq⟩
  obtain ⟨w, s1, rfl, hC1, hg1, hf1, hs1⟩ := comb_A oe_i_1 (by decide) h.2.2.1 hq
  have hw := SO_rng hs1
  have hM1 := MI_B h.2.1 h.2.2.1 x2 hf1
  change J 348 [jy w] _ _ _ _ _
  refine jy_istore hS rfl (Nat.le_of_ble_eq_true rfl) (L' := [some (.ref V.2.2.2.2.2.1), some (.ref a), some (.ref (a + 147)), some (.ref u), some (jy i), some (jy w), none, none]) rfl ?_
  refine jy_aload_n hS rfl rfl ?_
  refine jy_aload_n hS rfl rfl ?_
  refine jy_iload hS rfl rfl ?_
  refine jy_iconst hS rfl ?_
  refine jy_iadd hS rfl ?_
  refine jy_sld hS rfl (by omega) (by omega) ?_
  obtain ⟨Q1, QE1, hK2, m1, m2⟩ := mc_1 hV (a1 := (V.2.2.2.2.2.2.2 (i + 1).toNat).toInt) hM1 h.2.2.1 (jy_rng _)
  refine jy_callV hS rfl rfl rfl (Nat.le_of_ble_eq_true rfl) (Or.inl (MI_m hM1)) hK2 (by decide) ⟨Nat.zero_le _, Nat.zero_le _⟩ (Nat.le_of_ble_eq_true rfl) ?_ (fun _ _ _ _ q => (m2 _ _ _ q.2.2 : False).elim)
  rintro rv2 X2 I2 R2 ⟨e2, hq2⟩
  rw [e2]
  obtain ⟨eR, hf2, hM2, ht2, ⟨r, rfl⟩, hv2⟩ := comb_M ty_int hs1 (m1 _ _ _ hq2)
  rw [eR]
  have hL := LJ_2 hC1 x2 h.2.2.2 hg1 hf2 hM2
  change J 360 [jy r] _ _ _ _ _
  refine jy_istore hS rfl (Nat.le_of_ble_eq_true rfl) (L' := [some (.ref V.2.2.2.2.2.1), some (.ref a), some (.ref (a + 147)), some (.ref u), some (jy i), some (jy w), some (jy r), none]) rfl ?_
  refine jy_aload_n hS rfl rfl ?_
  refine jy_callV hS rfl rfl rfl (Nat.le_of_ble_eq_true rfl) (Or.inl (MI_m hM2)) (cz_201 hV hM2.1 (QE := fun _ _ => False)) (by decide) ⟨Nat.zero_le _, Nat.zero_le _⟩ (Nat.le_of_ble_eq_true rfl) ?_ (fun _ _ _ _ q => q.2.2.2.elim)
  rintro rv3 X3 I3 R3 ⟨e3, e4, rfl, e5⟩
  rw [e3, e4, e5, ht2]
  change J 366 [jy w] _ _ _ _ _
  refine jy_iload hS rfl rfl ?_
  refine jy_icmp_s hS rfl ?_
  refine jy_iload hS rfl rfl ?_
  refine jy_if_ne hS rfl (by omega) (fun h0 => ?_) (fun h0 => ?_)
  · refine jy_goto hS rfl ?_
    exact jy_join hS (k _ _ _ _ _ hL ⟨by (try dsimp only); omega, by (try dsimp only); omega⟩) rfl (jy_sub_s (jy_sub_s (jy_sub_s (jy_sub_s (jy_sub_s (jy_sub_n (jy_sub_n (jy_sub_n jy_sub_0))))))))
  · obtain ⟨hv3, hv4⟩ := hv2 h0
    have hv5 := Option.some.inj hv4
    rw [hv5]
    refine jy_aload_n hS rfl rfl ?_
    refine jy_iconst hS rfl ?_
    refine jy_lald hS rfl hL.2.2.2 (by decide) (by omega) ?_
    refine jy_iload hS rfl rfl ?_
    refine jy_i2l hS rfl rfl ?_
    refine jy_lcmp_s hS rfl hv3 ?_
    refine jy_if_0 hS rfl ?_
    refine jy_goto hS rfl ?_
    exact jy_join hS (k _ _ _ _ _ hL ⟨by (try dsimp only); omega, by (try dsimp only); omega⟩) rfl (jy_sub_s (jy_sub_s (jy_sub_s (jy_sub_s (jy_sub_s (jy_sub_n (jy_sub_n (jy_sub_n jy_sub_0))))))))
def cd_2 : List jx_row := [(393, (.aload_n 1), 394, 0, 0, 0), (394, (.invokevirtual 163), 397, 137, 0, 0), (397, (.aload_n 2), 398, 0, 0, 0), (398, (.invokevirtual 166), 401, 230, 0, 0), (401, (.if_icmp .eq 2761), 404, 3162, 0, 0), (404, (.iconst 0), 405, 0, 0, 0), (405, .ireturn, 406, 0, 0, 0)]
theorem cs_2 : cd_2.all (fun q => decide (jx_at jx_c377 q.1 = some q.2)) = true := by decide +kernel
set_option maxRecDepth 20000 in
theorem cl_2 {V : jx_V} (hV : V.1.stackTraces = false) {rt : Option FieldType} {J : jx_Jt} {KR : Option Value → Nat × Nat → jx_X → jx_I → jx_R → Prop} {KX : String → Nat × Nat → jx_X → jx_I → jx_R → Prop} (hS : jx_Snd V 205 rt [] false jx_c377 J KR KX) {X : jx_X} {R : jx_R} {I : jx_I} {a u : Nat} {s : YZ} {i : Int} {b : Nat × Nat} (h : LJ X R I a u s) (hi : 0 ≤ i ∧ i + 6 ≤ (V.2.2.2.2.2.2.1 : Nat)) (hn : V.2.2.2.2.2.2.1 ≤ 3072) (hb : 4 ≤ b.1 ∧ 24 ≤ b.2)
    (k : ∀ (X' : jx_X) (I' : jx_I) (R' : jx_R) (s' : YZ) (b' : Nat × Nat), LJ X' R' I' a u s' → b.1 ≤ b'.1 + 4 ∧ b.2 ≤ b'.2 + 24 → J 3162 [] [some (.ref V.2.2.2.2.2.1), some (.ref a), some (.ref (a + 147)), some (.ref u), some (jy i), none, none, none] b' X' I' R') : J 393 [] [some (.ref V.2.2.2.2.2.1), some (.ref a), some (.ref (a + 147)), some (.ref u), some (jy i), none, none, none] b X I R := by
  have hS := jx_piece hS cs_2
  refine jy_aload_n hS rfl rfl ?_
  obtain ⟨Q0, QE0, hK, k1, k2⟩ := kc_2 hV  h.1 h.2.2.1 
  refine jy_callV hS rfl rfl rfl (Nat.le_of_ble_eq_true rfl) (Or.inl (LJ_a h)) hK (by decide) ⟨Nat.zero_le _, Nat.zero_le _⟩ (Nat.le_of_ble_eq_true rfl) ?_ (fun _ _ _ _ q => (k2 _ _ _ q.2.2 : False).elim)
  rintro rv X1 I1 R1 ⟨e1, hq⟩
  rw [e1]
  obtain ⟨rfl, hC1, hg1, hf1⟩ := KQ_n (k1 _ _ _ hq)
  have hM1 := MI_B h.2.1 h.2.2.1 (X' := X) rfl hf1
  change J 397 [jy (ov_2 s )] _ _ _ _ _
  refine jy_aload_n hS rfl rfl ?_
  obtain ⟨Q1, QE1, hK2, m1, m2⟩ := mc_2 hV  hM1 h.2.2.1 
  refine jy_callV hS rfl rfl rfl (Nat.le_of_ble_eq_true rfl) (Or.inl (MI_m hM1)) hK2 (by decide) ⟨Nat.zero_le _, Nat.zero_le _⟩ (Nat.le_of_ble_eq_true rfl) ?_ (fun _ _ _ _ q => (m2 _ _ _ q.2.2 : False).elim)
  rintro rv2 X2 I2 R2 ⟨e2, hq2⟩
  rw [e2]
  obtain ⟨eR, hf2, hM2, rfl⟩ := MQ_n (m1 _ _ _ hq2)
  rw [eR]
  have hL := LJ_2 hC1 (X' := X) rfl h.2.2.2 hg1 hf2 hM2
  change J 401 [jy (ov_2 s ), jy (ov_2 s )] _ _ _ _ _
  refine jy_icmp_s hS rfl ?_
  exact jy_join hS (k _ _ _ _ _ hL ⟨by (try dsimp only); omega, by (try dsimp only); omega⟩) rfl (jy_sub_s (jy_sub_s (jy_sub_s (jy_sub_s (jy_sub_s (jy_sub_n (jy_sub_n (jy_sub_n jy_sub_0))))))))
def cd_3 : List jx_row := [(406, (.aload_n 1), 407, 0, 0, 0), (407, (.aload_n 0), 408, 0, 0, 0), (408, (.iload 4), 410, 0, 0, 0), (410, (.iconst 1), 411, 0, 0, 0), (411, .iadd, 412, 0, 0, 0), (412, .iaload, 413, 0, 0, 0), (413, (.aload_n 3), 414, 0, 0, 0), (414, (.invokestatic 167), 417, 338, 3, 2), (417, (.istore 5), 419, 0, 0, 0), (419, (.aload_n 2), 420, 0, 0, 0), (420, (.aload_n 0), 421, 0, 0, 0), (421, (.iload 4), 423, 0, 0, 0), (423, (.iconst 1), 424, 0, 0, 0), (424, .iadd, 425, 0, 0, 0), (425, .iaload, 426, 0, 0, 0), (426, (.invokevirtual 169), 429, 231, 1, 0), (429, (.istore 6), 431, 0, 0, 0), (431, (.aload_n 2), 432, 0, 0, 0), (432, (.invokevirtual 160), 435, 201, 0, 0), (435, (.iload 5), 437, 0, 0, 0), (437, (.if_icmp .eq 5), 440, 442, 0, 0), (440, (.iconst 0), 441, 0, 0, 0), (441, .ireturn, 442, 0, 0, 0), (442, (.iload 5), 444, 0, 0, 0), (444, (.ifCond .ne 15), 447, 459, 0, 0), (447, (.aload_n 3), 448, 0, 0, 0), (448, (.iconst 0), 449, 0, 0, 0), (449, .laload, 450, 0, 0, 0), (450, (.iload 6), 452, 0, 0, 0), (452, .i2l, 453, 0, 0, 0), (453, .lcmp, 454, 0, 0, 0), (454, (.ifCond .eq 5), 457, 459, 0, 0), (457, (.iconst 0), 458, 0, 0, 0), (458, .ireturn, 459, 0, 0, 0), (459, (.goto 2703), 462, 3162, 0, 0)]
theorem cs_3 : cd_3.all (fun q => decide (jx_at jx_c377 q.1 = some q.2)) = true := by decide +kernel
theorem oe_i_3 {s : YZ} {a1 : Int} : ∀ k w, oe_3 s a1 = some (k, w) → (k, w) ∈ [((2 : Nat), (1 : Int))] := by
  unfold oe_3
  exact nzw_i (by decide) (fun _ _ h => by cases h)
set_option maxRecDepth 20000 in
theorem cl_3 {V : jx_V} (hV : V.1.stackTraces = false) {rt : Option FieldType} {J : jx_Jt} {KR : Option Value → Nat × Nat → jx_X → jx_I → jx_R → Prop} {KX : String → Nat × Nat → jx_X → jx_I → jx_R → Prop} (hS : jx_Snd V 205 rt [] false jx_c377 J KR KX) {X : jx_X} {R : jx_R} {I : jx_I} {a u : Nat} {s : YZ} {i : Int} {b : Nat × Nat} (h : LJ X R I a u s) (hi : 0 ≤ i ∧ i + 6 ≤ (V.2.2.2.2.2.2.1 : Nat)) (hn : V.2.2.2.2.2.2.1 ≤ 3072) (hb : 4 ≤ b.1 ∧ 24 ≤ b.2)
    (k : ∀ (X' : jx_X) (I' : jx_I) (R' : jx_R) (s' : YZ) (b' : Nat × Nat), LJ X' R' I' a u s' → b.1 ≤ b'.1 + 4 ∧ b.2 ≤ b'.2 + 24 → J 3162 [] [some (.ref V.2.2.2.2.2.1), some (.ref a), some (.ref (a + 147)), some (.ref u), some (jy i), none, none, none] b' X' I' R') : J 406 [] [some (.ref V.2.2.2.2.2.1), some (.ref a), some (.ref (a + 147)), some (.ref u), some (jy i), none, none, none] b X I R := by
  have hS := jx_piece hS cs_3
  refine jy_aload_n hS rfl rfl ?_
  refine jy_aload_n hS rfl rfl ?_
  refine jy_iload hS rfl rfl ?_
  refine jy_iconst hS rfl ?_
  refine jy_iadd hS rfl ?_
  refine jy_sld hS rfl (by omega) (by omega) ?_
  refine jy_aload_n hS rfl rfl ?_
  refine jy_callS hS rfl rfl rfl (Nat.le_of_ble_eq_true rfl) (wr_3 hV (LJ_a h) h.2.2.2 (kc_3 hV (a1 := (V.2.2.2.2.2.2.2 (i + 1).toNat).toInt) h.1 h.2.2.1 (jy_rng _)) oe_i_3) (by decide) ⟨by (try dsimp only); omega, by (try dsimp only); omega⟩ (Nat.le_of_ble_eq_true rfl) ?_ (fun _ _ _ _ q => q.elim)
  rintro rv X1 I1 R1 ⟨x1, x2, hq⟩
  obtain ⟨w, s1, rfl, hC1, hg1, hf1, hs1⟩ := comb_A oe_i_3 (by decide) h.2.2.1 hq
  have hw := SO_rng hs1
  have hM1 := MI_B h.2.1 h.2.2.1 x2 hf1
  change J 417 [jy w] _ _ _ _ _
  refine jy_istore hS rfl (Nat.le_of_ble_eq_true rfl) (L' := [some (.ref V.2.2.2.2.2.1), some (.ref a), some (.ref (a + 147)), some (.ref u), some (jy i), some (jy w), none, none]) rfl ?_
  refine jy_aload_n hS rfl rfl ?_
  refine jy_aload_n hS rfl rfl ?_
  refine jy_iload hS rfl rfl ?_
  refine jy_iconst hS rfl ?_
  refine jy_iadd hS rfl ?_
  refine jy_sld hS rfl (by omega) (by omega) ?_
  obtain ⟨Q1, QE1, hK2, m1, m2⟩ := mc_3 hV (a1 := (V.2.2.2.2.2.2.2 (i + 1).toNat).toInt) hM1 h.2.2.1 (jy_rng _)
  refine jy_callV hS rfl rfl rfl (Nat.le_of_ble_eq_true rfl) (Or.inl (MI_m hM1)) hK2 (by decide) ⟨Nat.zero_le _, Nat.zero_le _⟩ (Nat.le_of_ble_eq_true rfl) ?_ (fun _ _ _ _ q => (m2 _ _ _ q.2.2 : False).elim)
  rintro rv2 X2 I2 R2 ⟨e2, hq2⟩
  rw [e2]
  obtain ⟨eR, hf2, hM2, ht2, ⟨r, rfl⟩, hv2⟩ := comb_M ty_int hs1 (m1 _ _ _ hq2)
  rw [eR]
  have hL := LJ_2 hC1 x2 h.2.2.2 hg1 hf2 hM2
  change J 429 [jy r] _ _ _ _ _
  refine jy_istore hS rfl (Nat.le_of_ble_eq_true rfl) (L' := [some (.ref V.2.2.2.2.2.1), some (.ref a), some (.ref (a + 147)), some (.ref u), some (jy i), some (jy w), some (jy r), none]) rfl ?_
  refine jy_aload_n hS rfl rfl ?_
  refine jy_callV hS rfl rfl rfl (Nat.le_of_ble_eq_true rfl) (Or.inl (MI_m hM2)) (cz_201 hV hM2.1 (QE := fun _ _ => False)) (by decide) ⟨Nat.zero_le _, Nat.zero_le _⟩ (Nat.le_of_ble_eq_true rfl) ?_ (fun _ _ _ _ q => q.2.2.2.elim)
  rintro rv3 X3 I3 R3 ⟨e3, e4, rfl, e5⟩
  rw [e3, e4, e5, ht2]
  change J 435 [jy w] _ _ _ _ _
  refine jy_iload hS rfl rfl ?_
  refine jy_icmp_s hS rfl ?_
  refine jy_iload hS rfl rfl ?_
  refine jy_if_ne hS rfl (by omega) (fun h0 => ?_) (fun h0 => ?_)
  · refine jy_goto hS rfl ?_
    exact jy_join hS (k _ _ _ _ _ hL ⟨by (try dsimp only); omega, by (try dsimp only); omega⟩) rfl (jy_sub_s (jy_sub_s (jy_sub_s (jy_sub_s (jy_sub_s (jy_sub_n (jy_sub_n (jy_sub_n jy_sub_0))))))))
  · obtain ⟨hv3, hv4⟩ := hv2 h0
    have hv5 := Option.some.inj hv4
    rw [hv5]
    refine jy_aload_n hS rfl rfl ?_
    refine jy_iconst hS rfl ?_
    refine jy_lald hS rfl hL.2.2.2 (by decide) (by omega) ?_
    refine jy_iload hS rfl rfl ?_
    refine jy_i2l hS rfl rfl ?_
    refine jy_lcmp_s hS rfl hv3 ?_
    refine jy_if_0 hS rfl ?_
    refine jy_goto hS rfl ?_
    exact jy_join hS (k _ _ _ _ _ hL ⟨by (try dsimp only); omega, by (try dsimp only); omega⟩) rfl (jy_sub_s (jy_sub_s (jy_sub_s (jy_sub_s (jy_sub_s (jy_sub_n (jy_sub_n (jy_sub_n jy_sub_0))))))))
def cd_4 : List jx_row := [(462, (.aload_n 1), 463, 0, 0, 0), (463, (.aload_n 0), 464, 0, 0, 0), (464, (.iload 4), 466, 0, 0, 0), (466, (.iconst 1), 467, 0, 0, 0), (467, .iadd, 468, 0, 0, 0), (468, .iaload, 469, 0, 0, 0), (469, (.aload_n 3), 470, 0, 0, 0), (470, (.invokestatic 170), 473, 339, 3, 2), (473, (.istore 5), 475, 0, 0, 0), (475, (.aload_n 2), 476, 0, 0, 0), (476, (.aload_n 0), 477, 0, 0, 0), (477, (.iload 4), 479, 0, 0, 0), (479, (.iconst 1), 480, 0, 0, 0), (480, .iadd, 481, 0, 0, 0), (481, .iaload, 482, 0, 0, 0), (482, (.invokevirtual 172), 485, 234, 1, 0), (485, (.istore 6), 487, 0, 0, 0), (487, (.aload_n 2), 488, 0, 0, 0), (488, (.invokevirtual 160), 491, 201, 0, 0), (491, (.iload 5), 493, 0, 0, 0), (493, (.if_icmp .eq 5), 496, 498, 0, 0), (496, (.iconst 0), 497, 0, 0, 0), (497, .ireturn, 498, 0, 0, 0), (498, (.iload 5), 500, 0, 0, 0), (500, (.ifCond .ne 15), 503, 515, 0, 0), (503, (.aload_n 3), 504, 0, 0, 0), (504, (.iconst 0), 505, 0, 0, 0), (505, .laload, 506, 0, 0, 0), (506, (.iload 6), 508, 0, 0, 0), (508, .i2l, 509, 0, 0, 0), (509, .lcmp, 510, 0, 0, 0), (510, (.ifCond .eq 5), 513, 515, 0, 0), (513, (.iconst 0), 514, 0, 0, 0), (514, .ireturn, 515, 0, 0, 0), (515, (.goto 2647), 518, 3162, 0, 0)]
theorem cs_4 : cd_4.all (fun q => decide (jx_at jx_c377 q.1 = some q.2)) = true := by decide +kernel
theorem oe_i_4 {s : YZ} {a1 : Int} : ∀ k w, oe_4 s a1 = some (k, w) → (k, w) ∈ [((0 : Nat), (1 : Int))] := by
  unfold oe_4
  exact nzw_i (by decide) (fun _ _ h => by cases h)
set_option maxRecDepth 20000 in
theorem cl_4 {V : jx_V} (hV : V.1.stackTraces = false) {rt : Option FieldType} {J : jx_Jt} {KR : Option Value → Nat × Nat → jx_X → jx_I → jx_R → Prop} {KX : String → Nat × Nat → jx_X → jx_I → jx_R → Prop} (hS : jx_Snd V 205 rt [] false jx_c377 J KR KX) {X : jx_X} {R : jx_R} {I : jx_I} {a u : Nat} {s : YZ} {i : Int} {b : Nat × Nat} (h : LJ X R I a u s) (hi : 0 ≤ i ∧ i + 6 ≤ (V.2.2.2.2.2.2.1 : Nat)) (hn : V.2.2.2.2.2.2.1 ≤ 3072) (hb : 4 ≤ b.1 ∧ 24 ≤ b.2)
    (k : ∀ (X' : jx_X) (I' : jx_I) (R' : jx_R) (s' : YZ) (b' : Nat × Nat), LJ X' R' I' a u s' → b.1 ≤ b'.1 + 4 ∧ b.2 ≤ b'.2 + 24 → J 3162 [] [some (.ref V.2.2.2.2.2.1), some (.ref a), some (.ref (a + 147)), some (.ref u), some (jy i), none, none, none] b' X' I' R') : J 462 [] [some (.ref V.2.2.2.2.2.1), some (.ref a), some (.ref (a + 147)), some (.ref u), some (jy i), none, none, none] b X I R := by
  have hS := jx_piece hS cs_4
  refine jy_aload_n hS rfl rfl ?_
  refine jy_aload_n hS rfl rfl ?_
  refine jy_iload hS rfl rfl ?_
  refine jy_iconst hS rfl ?_
  refine jy_iadd hS rfl ?_
  refine jy_sld hS rfl (by omega) (by omega) ?_
  refine jy_aload_n hS rfl rfl ?_
  refine jy_callS hS rfl rfl rfl (Nat.le_of_ble_eq_true rfl) (wr_4 hV (LJ_a h) h.2.2.2 (kc_4 hV (a1 := (V.2.2.2.2.2.2.2 (i + 1).toNat).toInt) h.1 h.2.2.1 (jy_rng _)) oe_i_4) (by decide) ⟨by (try dsimp only); omega, by (try dsimp only); omega⟩ (Nat.le_of_ble_eq_true rfl) ?_ (fun _ _ _ _ q => q.elim)
  rintro rv X1 I1 R1 ⟨x1, x2, hq⟩
  obtain ⟨w, s1, rfl, hC1, hg1, hf1, hs1⟩ := comb_A oe_i_4 (by decide) h.2.2.1 hq
  have hw := SO_rng hs1
  have hM1 := MI_B h.2.1 h.2.2.1 x2 hf1
  change J 473 [jy w] _ _ _ _ _
  refine jy_istore hS rfl (Nat.le_of_ble_eq_true rfl) (L' := [some (.ref V.2.2.2.2.2.1), some (.ref a), some (.ref (a + 147)), some (.ref u), some (jy i), some (jy w), none, none]) rfl ?_
  refine jy_aload_n hS rfl rfl ?_
  refine jy_aload_n hS rfl rfl ?_
  refine jy_iload hS rfl rfl ?_
  refine jy_iconst hS rfl ?_
  refine jy_iadd hS rfl ?_
  refine jy_sld hS rfl (by omega) (by omega) ?_
  obtain ⟨Q1, QE1, hK2, m1, m2⟩ := mc_4 hV (a1 := (V.2.2.2.2.2.2.2 (i + 1).toNat).toInt) hM1 h.2.2.1 (jy_rng _)
  refine jy_callV hS rfl rfl rfl (Nat.le_of_ble_eq_true rfl) (Or.inl (MI_m hM1)) hK2 (by decide) ⟨Nat.zero_le _, Nat.zero_le _⟩ (Nat.le_of_ble_eq_true rfl) ?_ (fun _ _ _ _ q => (m2 _ _ _ q.2.2 : False).elim)
  rintro rv2 X2 I2 R2 ⟨e2, hq2⟩
  rw [e2]
  obtain ⟨eR, hf2, hM2, ht2, ⟨r, rfl⟩, hv2⟩ := comb_M ty_int hs1 (m1 _ _ _ hq2)
  rw [eR]
  have hL := LJ_2 hC1 x2 h.2.2.2 hg1 hf2 hM2
  change J 485 [jy r] _ _ _ _ _
  refine jy_istore hS rfl (Nat.le_of_ble_eq_true rfl) (L' := [some (.ref V.2.2.2.2.2.1), some (.ref a), some (.ref (a + 147)), some (.ref u), some (jy i), some (jy w), some (jy r), none]) rfl ?_
  refine jy_aload_n hS rfl rfl ?_
  refine jy_callV hS rfl rfl rfl (Nat.le_of_ble_eq_true rfl) (Or.inl (MI_m hM2)) (cz_201 hV hM2.1 (QE := fun _ _ => False)) (by decide) ⟨Nat.zero_le _, Nat.zero_le _⟩ (Nat.le_of_ble_eq_true rfl) ?_ (fun _ _ _ _ q => q.2.2.2.elim)
  rintro rv3 X3 I3 R3 ⟨e3, e4, rfl, e5⟩
  rw [e3, e4, e5, ht2]
  change J 491 [jy w] _ _ _ _ _
  refine jy_iload hS rfl rfl ?_
  refine jy_icmp_s hS rfl ?_
  refine jy_iload hS rfl rfl ?_
  refine jy_if_ne hS rfl (by omega) (fun h0 => ?_) (fun h0 => ?_)
  · refine jy_goto hS rfl ?_
    exact jy_join hS (k _ _ _ _ _ hL ⟨by (try dsimp only); omega, by (try dsimp only); omega⟩) rfl (jy_sub_s (jy_sub_s (jy_sub_s (jy_sub_s (jy_sub_s (jy_sub_n (jy_sub_n (jy_sub_n jy_sub_0))))))))
  · obtain ⟨hv3, hv4⟩ := hv2 h0
    have hv5 := Option.some.inj hv4
    rw [hv5]
    refine jy_aload_n hS rfl rfl ?_
    refine jy_iconst hS rfl ?_
    refine jy_lald hS rfl hL.2.2.2 (by decide) (by omega) ?_
    refine jy_iload hS rfl rfl ?_
    refine jy_i2l hS rfl rfl ?_
    refine jy_lcmp_s hS rfl hv3 ?_
    refine jy_if_0 hS rfl ?_
    refine jy_goto hS rfl ?_
    exact jy_join hS (k _ _ _ _ _ hL ⟨by (try dsimp only); omega, by (try dsimp only); omega⟩) rfl (jy_sub_s (jy_sub_s (jy_sub_s (jy_sub_s (jy_sub_s (jy_sub_n (jy_sub_n (jy_sub_n jy_sub_0))))))))
def cd_5 : List jx_row := [(518, (.aload_n 1), 519, 0, 0, 0), (519, (.aload_n 0), 520, 0, 0, 0), (520, (.iload 4), 522, 0, 0, 0), (522, (.iconst 1), 523, 0, 0, 0), (523, .iadd, 524, 0, 0, 0), (524, .iaload, 525, 0, 0, 0), (525, (.aload_n 0), 526, 0, 0, 0), (526, (.iload 4), 528, 0, 0, 0), (528, (.iconst 2), 529, 0, 0, 0), (529, .iadd, 530, 0, 0, 0), (530, .iaload, 531, 0, 0, 0), (531, (.aload_n 3), 532, 0, 0, 0), (532, (.invokestatic 173), 535, 340, 4, 2), (535, (.istore 5), 537, 0, 0, 0), (537, (.aload_n 2), 538, 0, 0, 0), (538, (.aload_n 0), 539, 0, 0, 0), (539, (.iload 4), 541, 0, 0, 0), (541, (.iconst 1), 542, 0, 0, 0), (542, .iadd, 543, 0, 0, 0), (543, .iaload, 544, 0, 0, 0), (544, (.aload_n 0), 545, 0, 0, 0), (545, (.iload 4), 547, 0, 0, 0), (547, (.iconst 2), 548, 0, 0, 0), (548, .iadd, 549, 0, 0, 0), (549, .iaload, 550, 0, 0, 0), (550, (.invokevirtual 176), 553, 235, 2, 0), (553, (.istore 6), 555, 0, 0, 0), (555, (.aload_n 2), 556, 0, 0, 0), (556, (.invokevirtual 160), 559, 201, 0, 0), (559, (.iload 5), 561, 0, 0, 0), (561, (.if_icmp .eq 5), 564, 566, 0, 0), (564, (.iconst 0), 565, 0, 0, 0), (565, .ireturn, 566, 0, 0, 0), (566, (.iload 5), 568, 0, 0, 0), (568, (.ifCond .ne 15), 571, 583, 0, 0), (571, (.aload_n 3), 572, 0, 0, 0), (572, (.iconst 0), 573, 0, 0, 0), (573, .laload, 574, 0, 0, 0), (574, (.iload 6), 576, 0, 0, 0), (576, .i2l, 577, 0, 0, 0), (577, .lcmp, 578, 0, 0, 0), (578, (.ifCond .eq 5), 581, 583, 0, 0), (581, (.iconst 0), 582, 0, 0, 0), (582, .ireturn, 583, 0, 0, 0), (583, (.goto 2579), 586, 3162, 0, 0)]
theorem cs_5 : cd_5.all (fun q => decide (jx_at jx_c377 q.1 = some q.2)) = true := by decide +kernel
theorem oe_i_5 {s : YZ} {a1 : Int} {a2 : Int} : ∀ k w, oe_5 s a1 a2 = some (k, w) → (k, w) ∈ [((0 : Nat), (1 : Int))] := by
  unfold oe_5
  exact nzw_i (by decide) (fun _ _ h => by cases h)
set_option maxRecDepth 20000 in
theorem cl_5 {V : jx_V} (hV : V.1.stackTraces = false) {rt : Option FieldType} {J : jx_Jt} {KR : Option Value → Nat × Nat → jx_X → jx_I → jx_R → Prop} {KX : String → Nat × Nat → jx_X → jx_I → jx_R → Prop} (hS : jx_Snd V 205 rt [] false jx_c377 J KR KX) {X : jx_X} {R : jx_R} {I : jx_I} {a u : Nat} {s : YZ} {i : Int} {b : Nat × Nat} (h : LJ X R I a u s) (hi : 0 ≤ i ∧ i + 6 ≤ (V.2.2.2.2.2.2.1 : Nat)) (hn : V.2.2.2.2.2.2.1 ≤ 3072) (hb : 4 ≤ b.1 ∧ 24 ≤ b.2)
    (k : ∀ (X' : jx_X) (I' : jx_I) (R' : jx_R) (s' : YZ) (b' : Nat × Nat), LJ X' R' I' a u s' → b.1 ≤ b'.1 + 4 ∧ b.2 ≤ b'.2 + 24 → J 3162 [] [some (.ref V.2.2.2.2.2.1), some (.ref a), some (.ref (a + 147)), some (.ref u), some (jy i), none, none, none] b' X' I' R') : J 518 [] [some (.ref V.2.2.2.2.2.1), some (.ref a), some (.ref (a + 147)), some (.ref u), some (jy i), none, none, none] b X I R := by
  have hS := jx_piece hS cs_5
  refine jy_aload_n hS rfl rfl ?_
  refine jy_aload_n hS rfl rfl ?_
  refine jy_iload hS rfl rfl ?_
  refine jy_iconst hS rfl ?_
  refine jy_iadd hS rfl ?_
  refine jy_sld hS rfl (by omega) (by omega) ?_
  refine jy_aload_n hS rfl rfl ?_
  refine jy_iload hS rfl rfl ?_
  refine jy_iconst hS rfl ?_
  refine jy_iadd hS rfl ?_
  refine jy_sld hS rfl (by omega) (by omega) ?_
  refine jy_aload_n hS rfl rfl ?_
  refine jy_callS hS rfl rfl rfl (Nat.le_of_ble_eq_true rfl) (wr_5 hV (LJ_a h) h.2.2.2 (kc_5 hV (a1 := (V.2.2.2.2.2.2.2 (i + 1).toNat).toInt) (a2 := (V.2.2.2.2.2.2.2 (i + 2).toNat).toInt) h.1 h.2.2.1 (jy_rng _) (jy_rng _)) oe_i_5) (by decide) ⟨by (try dsimp only); omega, by (try dsimp only); omega⟩ (Nat.le_of_ble_eq_true rfl) ?_ (fun _ _ _ _ q => q.elim)
  rintro rv X1 I1 R1 ⟨x1, x2, hq⟩
  obtain ⟨w, s1, rfl, hC1, hg1, hf1, hs1⟩ := comb_A oe_i_5 (by decide) h.2.2.1 hq
  have hw := SO_rng hs1
  have hM1 := MI_B h.2.1 h.2.2.1 x2 hf1
  change J 535 [jy w] _ _ _ _ _
  refine jy_istore hS rfl (Nat.le_of_ble_eq_true rfl) (L' := [some (.ref V.2.2.2.2.2.1), some (.ref a), some (.ref (a + 147)), some (.ref u), some (jy i), some (jy w), none, none]) rfl ?_
  refine jy_aload_n hS rfl rfl ?_
  refine jy_aload_n hS rfl rfl ?_
  refine jy_iload hS rfl rfl ?_
  refine jy_iconst hS rfl ?_
  refine jy_iadd hS rfl ?_
  refine jy_sld hS rfl (by omega) (by omega) ?_
  refine jy_aload_n hS rfl rfl ?_
  refine jy_iload hS rfl rfl ?_
  refine jy_iconst hS rfl ?_
  refine jy_iadd hS rfl ?_
  refine jy_sld hS rfl (by omega) (by omega) ?_
  obtain ⟨Q1, QE1, hK2, m1, m2⟩ := mc_5 hV (a1 := (V.2.2.2.2.2.2.2 (i + 1).toNat).toInt) (a2 := (V.2.2.2.2.2.2.2 (i + 2).toNat).toInt) hM1 h.2.2.1 (jy_rng _) (jy_rng _)
  refine jy_callV hS rfl rfl rfl (Nat.le_of_ble_eq_true rfl) (Or.inl (MI_m hM1)) hK2 (by decide) ⟨Nat.zero_le _, Nat.zero_le _⟩ (Nat.le_of_ble_eq_true rfl) ?_ (fun _ _ _ _ q => (m2 _ _ _ q.2.2 : False).elim)
  rintro rv2 X2 I2 R2 ⟨e2, hq2⟩
  rw [e2]
  obtain ⟨eR, hf2, hM2, ht2, ⟨r, rfl⟩, hv2⟩ := comb_M ty_int hs1 (m1 _ _ _ hq2)
  rw [eR]
  have hL := LJ_2 hC1 x2 h.2.2.2 hg1 hf2 hM2
  change J 553 [jy r] _ _ _ _ _
  refine jy_istore hS rfl (Nat.le_of_ble_eq_true rfl) (L' := [some (.ref V.2.2.2.2.2.1), some (.ref a), some (.ref (a + 147)), some (.ref u), some (jy i), some (jy w), some (jy r), none]) rfl ?_
  refine jy_aload_n hS rfl rfl ?_
  refine jy_callV hS rfl rfl rfl (Nat.le_of_ble_eq_true rfl) (Or.inl (MI_m hM2)) (cz_201 hV hM2.1 (QE := fun _ _ => False)) (by decide) ⟨Nat.zero_le _, Nat.zero_le _⟩ (Nat.le_of_ble_eq_true rfl) ?_ (fun _ _ _ _ q => q.2.2.2.elim)
  rintro rv3 X3 I3 R3 ⟨e3, e4, rfl, e5⟩
  rw [e3, e4, e5, ht2]
  change J 559 [jy w] _ _ _ _ _
  refine jy_iload hS rfl rfl ?_
  refine jy_icmp_s hS rfl ?_
  refine jy_iload hS rfl rfl ?_
  refine jy_if_ne hS rfl (by omega) (fun h0 => ?_) (fun h0 => ?_)
  · refine jy_goto hS rfl ?_
    exact jy_join hS (k _ _ _ _ _ hL ⟨by (try dsimp only); omega, by (try dsimp only); omega⟩) rfl (jy_sub_s (jy_sub_s (jy_sub_s (jy_sub_s (jy_sub_s (jy_sub_n (jy_sub_n (jy_sub_n jy_sub_0))))))))
  · obtain ⟨hv3, hv4⟩ := hv2 h0
    have hv5 := Option.some.inj hv4
    rw [hv5]
    refine jy_aload_n hS rfl rfl ?_
    refine jy_iconst hS rfl ?_
    refine jy_lald hS rfl hL.2.2.2 (by decide) (by omega) ?_
    refine jy_iload hS rfl rfl ?_
    refine jy_i2l hS rfl rfl ?_
    refine jy_lcmp_s hS rfl hv3 ?_
    refine jy_if_0 hS rfl ?_
    refine jy_goto hS rfl ?_
    exact jy_join hS (k _ _ _ _ _ hL ⟨by (try dsimp only); omega, by (try dsimp only); omega⟩) rfl (jy_sub_s (jy_sub_s (jy_sub_s (jy_sub_s (jy_sub_s (jy_sub_n (jy_sub_n (jy_sub_n jy_sub_0))))))))
def cd_6 : List jx_row := [(586, (.aload_n 1), 587, 0, 0, 0), (587, (.aload_n 0), 588, 0, 0, 0), (588, (.iload 4), 590, 0, 0, 0), (590, (.iconst 1), 591, 0, 0, 0), (591, .iadd, 592, 0, 0, 0), (592, .iaload, 593, 0, 0, 0), (593, (.aload_n 0), 594, 0, 0, 0), (594, (.iload 4), 596, 0, 0, 0), (596, (.iconst 2), 597, 0, 0, 0), (597, .iadd, 598, 0, 0, 0), (598, .iaload, 599, 0, 0, 0), (599, (.aload_n 3), 600, 0, 0, 0), (600, (.invokestatic 177), 603, 341, 4, 2), (603, (.istore 5), 605, 0, 0, 0), (605, (.aload_n 2), 606, 0, 0, 0), (606, (.aload_n 0), 607, 0, 0, 0), (607, (.iload 4), 609, 0, 0, 0), (609, (.iconst 1), 610, 0, 0, 0), (610, .iadd, 611, 0, 0, 0), (611, .iaload, 612, 0, 0, 0), (612, (.aload_n 0), 613, 0, 0, 0), (613, (.iload 4), 615, 0, 0, 0), (615, (.iconst 2), 616, 0, 0, 0), (616, .iadd, 617, 0, 0, 0), (617, .iaload, 618, 0, 0, 0), (618, (.invokevirtual 179), 621, 236, 2, 0), (621, (.istore 6), 623, 0, 0, 0), (623, (.aload_n 2), 624, 0, 0, 0), (624, (.invokevirtual 160), 627, 201, 0, 0), (627, (.iload 5), 629, 0, 0, 0), (629, (.if_icmp .eq 5), 632, 634, 0, 0), (632, (.iconst 0), 633, 0, 0, 0), (633, .ireturn, 634, 0, 0, 0), (634, (.iload 5), 636, 0, 0, 0), (636, (.ifCond .ne 15), 639, 651, 0, 0), (639, (.aload_n 3), 640, 0, 0, 0), (640, (.iconst 0), 641, 0, 0, 0), (641, .laload, 642, 0, 0, 0), (642, (.iload 6), 644, 0, 0, 0), (644, .i2l, 645, 0, 0, 0), (645, .lcmp, 646, 0, 0, 0), (646, (.ifCond .eq 5), 649, 651, 0, 0), (649, (.iconst 0), 650, 0, 0, 0), (650, .ireturn, 651, 0, 0, 0), (651, (.goto 2511), 654, 3162, 0, 0)]
theorem cs_6 : cd_6.all (fun q => decide (jx_at jx_c377 q.1 = some q.2)) = true := by decide +kernel
theorem oe_i_6 {s : YZ} {a1 : Int} {a2 : Int} : ∀ k w, oe_6 s a1 a2 = some (k, w) → (k, w) ∈ [((1 : Nat), (1 : Int)), ((2 : Nat), (2 : Int))] := by
  unfold oe_6
  exact nzw_i (by decide) (nzw_i (by decide) (fun _ _ h => by cases h))
set_option maxRecDepth 20000 in
theorem cl_6 {V : jx_V} (hV : V.1.stackTraces = false) {rt : Option FieldType} {J : jx_Jt} {KR : Option Value → Nat × Nat → jx_X → jx_I → jx_R → Prop} {KX : String → Nat × Nat → jx_X → jx_I → jx_R → Prop} (hS : jx_Snd V 205 rt [] false jx_c377 J KR KX) {X : jx_X} {R : jx_R} {I : jx_I} {a u : Nat} {s : YZ} {i : Int} {b : Nat × Nat} (h : LJ X R I a u s) (hi : 0 ≤ i ∧ i + 6 ≤ (V.2.2.2.2.2.2.1 : Nat)) (hn : V.2.2.2.2.2.2.1 ≤ 3072) (hb : 4 ≤ b.1 ∧ 24 ≤ b.2)
    (k : ∀ (X' : jx_X) (I' : jx_I) (R' : jx_R) (s' : YZ) (b' : Nat × Nat), LJ X' R' I' a u s' → b.1 ≤ b'.1 + 4 ∧ b.2 ≤ b'.2 + 24 → J 3162 [] [some (.ref V.2.2.2.2.2.1), some (.ref a), some (.ref (a + 147)), some (.ref u), some (jy i), none, none, none] b' X' I' R') : J 586 [] [some (.ref V.2.2.2.2.2.1), some (.ref a), some (.ref (a + 147)), some (.ref u), some (jy i), none, none, none] b X I R := by
  have hS := jx_piece hS cs_6
  refine jy_aload_n hS rfl rfl ?_
  refine jy_aload_n hS rfl rfl ?_
  refine jy_iload hS rfl rfl ?_
  refine jy_iconst hS rfl ?_
  refine jy_iadd hS rfl ?_
  refine jy_sld hS rfl (by omega) (by omega) ?_
  refine jy_aload_n hS rfl rfl ?_
  refine jy_iload hS rfl rfl ?_
  refine jy_iconst hS rfl ?_
  refine jy_iadd hS rfl ?_
  refine jy_sld hS rfl (by omega) (by omega) ?_
  refine jy_aload_n hS rfl rfl ?_
  refine jy_callS hS rfl rfl rfl (Nat.le_of_ble_eq_true rfl) (wr_6 hV (LJ_a h) h.2.2.2 (kc_6 hV (a1 := (V.2.2.2.2.2.2.2 (i + 1).toNat).toInt) (a2 := (V.2.2.2.2.2.2.2 (i + 2).toNat).toInt) h.1 h.2.2.1 (jy_rng _) (jy_rng _)) oe_i_6) (by decide) ⟨by (try dsimp only); omega, by (try dsimp only); omega⟩ (Nat.le_of_ble_eq_true rfl) ?_ (fun _ _ _ _ q => q.elim)
  rintro rv X1 I1 R1 ⟨x1, x2, hq⟩
  obtain ⟨w, s1, rfl, hC1, hg1, hf1, hs1⟩ := comb_A oe_i_6 (by decide) h.2.2.1 hq
  have hw := SO_rng hs1
  have hM1 := MI_B h.2.1 h.2.2.1 x2 hf1
  change J 603 [jy w] _ _ _ _ _
  refine jy_istore hS rfl (Nat.le_of_ble_eq_true rfl) (L' := [some (.ref V.2.2.2.2.2.1), some (.ref a), some (.ref (a + 147)), some (.ref u), some (jy i), some (jy w), none, none]) rfl ?_
  refine jy_aload_n hS rfl rfl ?_
  refine jy_aload_n hS rfl rfl ?_
  refine jy_iload hS rfl rfl ?_
  refine jy_iconst hS rfl ?_
  refine jy_iadd hS rfl ?_
  refine jy_sld hS rfl (by omega) (by omega) ?_
  refine jy_aload_n hS rfl rfl ?_
  refine jy_iload hS rfl rfl ?_
  refine jy_iconst hS rfl ?_
  refine jy_iadd hS rfl ?_
  refine jy_sld hS rfl (by omega) (by omega) ?_
  obtain ⟨Q1, QE1, hK2, m1, m2⟩ := mc_6 hV (a1 := (V.2.2.2.2.2.2.2 (i + 1).toNat).toInt) (a2 := (V.2.2.2.2.2.2.2 (i + 2).toNat).toInt) hM1 h.2.2.1 (jy_rng _) (jy_rng _)
  refine jy_callV hS rfl rfl rfl (Nat.le_of_ble_eq_true rfl) (Or.inl (MI_m hM1)) hK2 (by decide) ⟨Nat.zero_le _, Nat.zero_le _⟩ (Nat.le_of_ble_eq_true rfl) ?_ (fun _ _ _ _ q => (m2 _ _ _ q.2.2 : False).elim)
  rintro rv2 X2 I2 R2 ⟨e2, hq2⟩
  rw [e2]
  obtain ⟨eR, hf2, hM2, ht2, ⟨r, rfl⟩, hv2⟩ := comb_M ty_int hs1 (m1 _ _ _ hq2)
  rw [eR]
  have hL := LJ_2 hC1 x2 h.2.2.2 hg1 hf2 hM2
  change J 621 [jy r] _ _ _ _ _
  refine jy_istore hS rfl (Nat.le_of_ble_eq_true rfl) (L' := [some (.ref V.2.2.2.2.2.1), some (.ref a), some (.ref (a + 147)), some (.ref u), some (jy i), some (jy w), some (jy r), none]) rfl ?_
  refine jy_aload_n hS rfl rfl ?_
  refine jy_callV hS rfl rfl rfl (Nat.le_of_ble_eq_true rfl) (Or.inl (MI_m hM2)) (cz_201 hV hM2.1 (QE := fun _ _ => False)) (by decide) ⟨Nat.zero_le _, Nat.zero_le _⟩ (Nat.le_of_ble_eq_true rfl) ?_ (fun _ _ _ _ q => q.2.2.2.elim)
  rintro rv3 X3 I3 R3 ⟨e3, e4, rfl, e5⟩
  rw [e3, e4, e5, ht2]
  change J 627 [jy w] _ _ _ _ _
  refine jy_iload hS rfl rfl ?_
  refine jy_icmp_s hS rfl ?_
  refine jy_iload hS rfl rfl ?_
  refine jy_if_ne hS rfl (by omega) (fun h0 => ?_) (fun h0 => ?_)
  · refine jy_goto hS rfl ?_
    exact jy_join hS (k _ _ _ _ _ hL ⟨by (try dsimp only); omega, by (try dsimp only); omega⟩) rfl (jy_sub_s (jy_sub_s (jy_sub_s (jy_sub_s (jy_sub_s (jy_sub_n (jy_sub_n (jy_sub_n jy_sub_0))))))))
  · obtain ⟨hv3, hv4⟩ := hv2 h0
    have hv5 := Option.some.inj hv4
    rw [hv5]
    refine jy_aload_n hS rfl rfl ?_
    refine jy_iconst hS rfl ?_
    refine jy_lald hS rfl hL.2.2.2 (by decide) (by omega) ?_
    refine jy_iload hS rfl rfl ?_
    refine jy_i2l hS rfl rfl ?_
    refine jy_lcmp_s hS rfl hv3 ?_
    refine jy_if_0 hS rfl ?_
    refine jy_goto hS rfl ?_
    exact jy_join hS (k _ _ _ _ _ hL ⟨by (try dsimp only); omega, by (try dsimp only); omega⟩) rfl (jy_sub_s (jy_sub_s (jy_sub_s (jy_sub_s (jy_sub_s (jy_sub_n (jy_sub_n (jy_sub_n jy_sub_0))))))))
def cd_7 : List jx_row := [(654, (.aload_n 1), 655, 0, 0, 0), (655, (.aload_n 0), 656, 0, 0, 0), (656, (.iload 4), 658, 0, 0, 0), (658, (.iconst 1), 659, 0, 0, 0), (659, .iadd, 660, 0, 0, 0), (660, .iaload, 661, 0, 0, 0), (661, (.aload_n 0), 662, 0, 0, 0), (662, (.iload 4), 664, 0, 0, 0), (664, (.iconst 2), 665, 0, 0, 0), (665, .iadd, 666, 0, 0, 0), (666, .iaload, 667, 0, 0, 0), (667, (.aload_n 0), 668, 0, 0, 0), (668, (.iload 4), 670, 0, 0, 0), (670, (.iconst 3), 671, 0, 0, 0), (671, .iadd, 672, 0, 0, 0), (672, .iaload, 673, 0, 0, 0), (673, (.aload_n 3), 674, 0, 0, 0), (674, (.invokestatic 180), 677, 342, 5, 2), (677, (.istore 5), 679, 0, 0, 0), (679, (.aload_n 2), 680, 0, 0, 0), (680, (.aload_n 0), 681, 0, 0, 0), (681, (.iload 4), 683, 0, 0, 0), (683, (.iconst 1), 684, 0, 0, 0), (684, .iadd, 685, 0, 0, 0), (685, .iaload, 686, 0, 0, 0), (686, (.aload_n 0), 687, 0, 0, 0), (687, (.iload 4), 689, 0, 0, 0), (689, (.iconst 2), 690, 0, 0, 0), (690, .iadd, 691, 0, 0, 0), (691, .iaload, 692, 0, 0, 0), (692, (.aload_n 0), 693, 0, 0, 0), (693, (.iload 4), 695, 0, 0, 0), (695, (.iconst 3), 696, 0, 0, 0), (696, .iadd, 697, 0, 0, 0), (697, .iaload, 698, 0, 0, 0), (698, (.invokevirtual 183), 701, 237, 3, 0), (701, (.istore 6), 703, 0, 0, 0), (703, (.aload_n 2), 704, 0, 0, 0), (704, (.invokevirtual 160), 707, 201, 0, 0), (707, (.iload 5), 709, 0, 0, 0), (709, (.if_icmp .eq 5), 712, 714, 0, 0), (712, (.iconst 0), 713, 0, 0, 0), (713, .ireturn, 714, 0, 0, 0), (714, (.iload 5), 716, 0, 0, 0), (716, (.ifCond .ne 15), 719, 731, 0, 0), (719, (.aload_n 3), 720, 0, 0, 0), (720, (.iconst 0), 721, 0, 0, 0), (721, .laload, 722, 0, 0, 0), (722, (.iload 6), 724, 0, 0, 0), (724, .i2l, 725, 0, 0, 0), (725, .lcmp, 726, 0, 0, 0), (726, (.ifCond .eq 5), 729, 731, 0, 0), (729, (.iconst 0), 730, 0, 0, 0), (730, .ireturn, 731, 0, 0, 0), (731, (.goto 2431), 734, 3162, 0, 0)]
theorem cs_7 : cd_7.all (fun q => decide (jx_at jx_c377 q.1 = some q.2)) = true := by decide +kernel
theorem oe_i_7 {s : YZ} {a1 : Int} {a2 : Int} {a3 : Int} : ∀ k w, oe_7 s a1 a2 a3 = some (k, w) → (k, w) ∈ [((0 : Nat), (1 : Int)), ((1 : Nat), (2 : Int)), ((2 : Nat), (3 : Int))] := by
  unfold oe_7
  exact nzw_i (by decide) (nzw_i (by decide) (nzw_i (by decide) (fun _ _ h => by cases h)))
set_option maxRecDepth 20000 in
theorem cl_7 {V : jx_V} (hV : V.1.stackTraces = false) {rt : Option FieldType} {J : jx_Jt} {KR : Option Value → Nat × Nat → jx_X → jx_I → jx_R → Prop} {KX : String → Nat × Nat → jx_X → jx_I → jx_R → Prop} (hS : jx_Snd V 205 rt [] false jx_c377 J KR KX) {X : jx_X} {R : jx_R} {I : jx_I} {a u : Nat} {s : YZ} {i : Int} {b : Nat × Nat} (h : LJ X R I a u s) (hi : 0 ≤ i ∧ i + 6 ≤ (V.2.2.2.2.2.2.1 : Nat)) (hn : V.2.2.2.2.2.2.1 ≤ 3072) (hb : 4 ≤ b.1 ∧ 24 ≤ b.2)
    (k : ∀ (X' : jx_X) (I' : jx_I) (R' : jx_R) (s' : YZ) (b' : Nat × Nat), LJ X' R' I' a u s' → b.1 ≤ b'.1 + 4 ∧ b.2 ≤ b'.2 + 24 → J 3162 [] [some (.ref V.2.2.2.2.2.1), some (.ref a), some (.ref (a + 147)), some (.ref u), some (jy i), none, none, none] b' X' I' R') : J 654 [] [some (.ref V.2.2.2.2.2.1), some (.ref a), some (.ref (a + 147)), some (.ref u), some (jy i), none, none, none] b X I R := by
  have hS := jx_piece hS cs_7
  refine jy_aload_n hS rfl rfl ?_
  refine jy_aload_n hS rfl rfl ?_
  refine jy_iload hS rfl rfl ?_
  refine jy_iconst hS rfl ?_
  refine jy_iadd hS rfl ?_
  refine jy_sld hS rfl (by omega) (by omega) ?_
  refine jy_aload_n hS rfl rfl ?_
  refine jy_iload hS rfl rfl ?_
  refine jy_iconst hS rfl ?_
  refine jy_iadd hS rfl ?_
  refine jy_sld hS rfl (by omega) (by omega) ?_
  refine jy_aload_n hS rfl rfl ?_
  refine jy_iload hS rfl rfl ?_
  refine jy_iconst hS rfl ?_
  refine jy_iadd hS rfl ?_
  refine jy_sld hS rfl (by omega) (by omega) ?_
  refine jy_aload_n hS rfl rfl ?_
  refine jy_callS hS rfl rfl rfl (Nat.le_of_ble_eq_true rfl) (wr_7 hV (LJ_a h) h.2.2.2 (kc_7 hV (a1 := (V.2.2.2.2.2.2.2 (i + 1).toNat).toInt) (a2 := (V.2.2.2.2.2.2.2 (i + 2).toNat).toInt) (a3 := (V.2.2.2.2.2.2.2 (i + 3).toNat).toInt) h.1 h.2.2.1 (jy_rng _) (jy_rng _) (jy_rng _)) oe_i_7) (by decide) ⟨by (try dsimp only); omega, by (try dsimp only); omega⟩ (Nat.le_of_ble_eq_true rfl) ?_ (fun _ _ _ _ q => q.elim)
  rintro rv X1 I1 R1 ⟨x1, x2, hq⟩
  obtain ⟨w, s1, rfl, hC1, hg1, hf1, hs1⟩ := comb_A oe_i_7 (by decide) h.2.2.1 hq
  have hw := SO_rng hs1
  have hM1 := MI_B h.2.1 h.2.2.1 x2 hf1
  change J 677 [jy w] _ _ _ _ _
  refine jy_istore hS rfl (Nat.le_of_ble_eq_true rfl) (L' := [some (.ref V.2.2.2.2.2.1), some (.ref a), some (.ref (a + 147)), some (.ref u), some (jy i), some (jy w), none, none]) rfl ?_
  refine jy_aload_n hS rfl rfl ?_
  refine jy_aload_n hS rfl rfl ?_
  refine jy_iload hS rfl rfl ?_
  refine jy_iconst hS rfl ?_
  refine jy_iadd hS rfl ?_
  refine jy_sld hS rfl (by omega) (by omega) ?_
  refine jy_aload_n hS rfl rfl ?_
  refine jy_iload hS rfl rfl ?_
  refine jy_iconst hS rfl ?_
  refine jy_iadd hS rfl ?_
  refine jy_sld hS rfl (by omega) (by omega) ?_
  refine jy_aload_n hS rfl rfl ?_
  refine jy_iload hS rfl rfl ?_
  refine jy_iconst hS rfl ?_
  refine jy_iadd hS rfl ?_
  refine jy_sld hS rfl (by omega) (by omega) ?_
  obtain ⟨Q1, QE1, hK2, m1, m2⟩ := mc_7 hV (a1 := (V.2.2.2.2.2.2.2 (i + 1).toNat).toInt) (a2 := (V.2.2.2.2.2.2.2 (i + 2).toNat).toInt) (a3 := (V.2.2.2.2.2.2.2 (i + 3).toNat).toInt) hM1 h.2.2.1 (jy_rng _) (jy_rng _) (jy_rng _)
  refine jy_callV hS rfl rfl rfl (Nat.le_of_ble_eq_true rfl) (Or.inl (MI_m hM1)) hK2 (by decide) ⟨Nat.zero_le _, Nat.zero_le _⟩ (Nat.le_of_ble_eq_true rfl) ?_ (fun _ _ _ _ q => (m2 _ _ _ q.2.2 : False).elim)
  rintro rv2 X2 I2 R2 ⟨e2, hq2⟩
  rw [e2]
  obtain ⟨eR, hf2, hM2, ht2, ⟨r, rfl⟩, hv2⟩ := comb_M ty_int hs1 (m1 _ _ _ hq2)
  rw [eR]
  have hL := LJ_2 hC1 x2 h.2.2.2 hg1 hf2 hM2
  change J 701 [jy r] _ _ _ _ _
  refine jy_istore hS rfl (Nat.le_of_ble_eq_true rfl) (L' := [some (.ref V.2.2.2.2.2.1), some (.ref a), some (.ref (a + 147)), some (.ref u), some (jy i), some (jy w), some (jy r), none]) rfl ?_
  refine jy_aload_n hS rfl rfl ?_
  refine jy_callV hS rfl rfl rfl (Nat.le_of_ble_eq_true rfl) (Or.inl (MI_m hM2)) (cz_201 hV hM2.1 (QE := fun _ _ => False)) (by decide) ⟨Nat.zero_le _, Nat.zero_le _⟩ (Nat.le_of_ble_eq_true rfl) ?_ (fun _ _ _ _ q => q.2.2.2.elim)
  rintro rv3 X3 I3 R3 ⟨e3, e4, rfl, e5⟩
  rw [e3, e4, e5, ht2]
  change J 707 [jy w] _ _ _ _ _
  refine jy_iload hS rfl rfl ?_
  refine jy_icmp_s hS rfl ?_
  refine jy_iload hS rfl rfl ?_
  refine jy_if_ne hS rfl (by omega) (fun h0 => ?_) (fun h0 => ?_)
  · refine jy_goto hS rfl ?_
    exact jy_join hS (k _ _ _ _ _ hL ⟨by (try dsimp only); omega, by (try dsimp only); omega⟩) rfl (jy_sub_s (jy_sub_s (jy_sub_s (jy_sub_s (jy_sub_s (jy_sub_n (jy_sub_n (jy_sub_n jy_sub_0))))))))
  · obtain ⟨hv3, hv4⟩ := hv2 h0
    have hv5 := Option.some.inj hv4
    rw [hv5]
    refine jy_aload_n hS rfl rfl ?_
    refine jy_iconst hS rfl ?_
    refine jy_lald hS rfl hL.2.2.2 (by decide) (by omega) ?_
    refine jy_iload hS rfl rfl ?_
    refine jy_i2l hS rfl rfl ?_
    refine jy_lcmp_s hS rfl hv3 ?_
    refine jy_if_0 hS rfl ?_
    refine jy_goto hS rfl ?_
    exact jy_join hS (k _ _ _ _ _ hL ⟨by (try dsimp only); omega, by (try dsimp only); omega⟩) rfl (jy_sub_s (jy_sub_s (jy_sub_s (jy_sub_s (jy_sub_s (jy_sub_n (jy_sub_n (jy_sub_n jy_sub_0))))))))
def cd_8 : List jx_row := [(734, (.aload_n 1), 735, 0, 0, 0), (735, (.aload_n 0), 736, 0, 0, 0), (736, (.iload 4), 738, 0, 0, 0), (738, (.iconst 1), 739, 0, 0, 0), (739, .iadd, 740, 0, 0, 0), (740, .iaload, 741, 0, 0, 0), (741, (.aload_n 0), 742, 0, 0, 0), (742, (.iload 4), 744, 0, 0, 0), (744, (.iconst 2), 745, 0, 0, 0), (745, .iadd, 746, 0, 0, 0), (746, .iaload, 747, 0, 0, 0), (747, (.aload_n 0), 748, 0, 0, 0), (748, (.iload 4), 750, 0, 0, 0), (750, (.iconst 3), 751, 0, 0, 0), (751, .iadd, 752, 0, 0, 0), (752, .iaload, 753, 0, 0, 0), (753, (.aload_n 3), 754, 0, 0, 0), (754, (.invokestatic 184), 757, 343, 5, 2), (757, (.istore 5), 759, 0, 0, 0), (759, (.aload_n 2), 760, 0, 0, 0), (760, (.aload_n 0), 761, 0, 0, 0), (761, (.iload 4), 763, 0, 0, 0), (763, (.iconst 1), 764, 0, 0, 0), (764, .iadd, 765, 0, 0, 0), (765, .iaload, 766, 0, 0, 0), (766, (.aload_n 0), 767, 0, 0, 0), (767, (.iload 4), 769, 0, 0, 0), (769, (.iconst 2), 770, 0, 0, 0), (770, .iadd, 771, 0, 0, 0), (771, .iaload, 772, 0, 0, 0), (772, (.aload_n 0), 773, 0, 0, 0), (773, (.iload 4), 775, 0, 0, 0), (775, (.iconst 3), 776, 0, 0, 0), (776, .iadd, 777, 0, 0, 0), (777, .iaload, 778, 0, 0, 0), (778, (.invokevirtual 186), 781, 238, 3, 0), (781, (.istore 6), 783, 0, 0, 0), (783, (.aload_n 2), 784, 0, 0, 0), (784, (.invokevirtual 160), 787, 201, 0, 0), (787, (.iload 5), 789, 0, 0, 0), (789, (.if_icmp .eq 5), 792, 794, 0, 0), (792, (.iconst 0), 793, 0, 0, 0), (793, .ireturn, 794, 0, 0, 0), (794, (.iload 5), 796, 0, 0, 0), (796, (.ifCond .ne 15), 799, 811, 0, 0), (799, (.aload_n 3), 800, 0, 0, 0), (800, (.iconst 0), 801, 0, 0, 0), (801, .laload, 802, 0, 0, 0), (802, (.iload 6), 804, 0, 0, 0), (804, .i2l, 805, 0, 0, 0), (805, .lcmp, 806, 0, 0, 0), (806, (.ifCond .eq 5), 809, 811, 0, 0), (809, (.iconst 0), 810, 0, 0, 0), (810, .ireturn, 811, 0, 0, 0), (811, (.goto 2351), 814, 3162, 0, 0)]
theorem cs_8 : cd_8.all (fun q => decide (jx_at jx_c377 q.1 = some q.2)) = true := by decide +kernel
theorem oe_i_8 {s : YZ} {a1 : Int} {a2 : Int} {a3 : Int} : ∀ k w, oe_8 s a1 a2 a3 = some (k, w) → (k, w) ∈ [((0 : Nat), (1 : Int)), ((1 : Nat), (2 : Int)), ((2 : Nat), (3 : Int))] := by
  unfold oe_8
  exact nzw_i (by decide) (nzw_i (by decide) (nzw_i (by decide) (fun _ _ h => by cases h)))
set_option maxRecDepth 20000 in
theorem cl_8 {V : jx_V} (hV : V.1.stackTraces = false) {rt : Option FieldType} {J : jx_Jt} {KR : Option Value → Nat × Nat → jx_X → jx_I → jx_R → Prop} {KX : String → Nat × Nat → jx_X → jx_I → jx_R → Prop} (hS : jx_Snd V 205 rt [] false jx_c377 J KR KX) {X : jx_X} {R : jx_R} {I : jx_I} {a u : Nat} {s : YZ} {i : Int} {b : Nat × Nat} (h : LJ X R I a u s) (hi : 0 ≤ i ∧ i + 6 ≤ (V.2.2.2.2.2.2.1 : Nat)) (hn : V.2.2.2.2.2.2.1 ≤ 3072) (hb : 4 ≤ b.1 ∧ 24 ≤ b.2)
    (k : ∀ (X' : jx_X) (I' : jx_I) (R' : jx_R) (s' : YZ) (b' : Nat × Nat), LJ X' R' I' a u s' → b.1 ≤ b'.1 + 4 ∧ b.2 ≤ b'.2 + 24 → J 3162 [] [some (.ref V.2.2.2.2.2.1), some (.ref a), some (.ref (a + 147)), some (.ref u), some (jy i), none, none, none] b' X' I' R') : J 734 [] [some (.ref V.2.2.2.2.2.1), some (.ref a), some (.ref (a + 147)), some (.ref u), some (jy i), none, none, none] b X I R := by
  have hS := jx_piece hS cs_8
  refine jy_aload_n hS rfl rfl ?_
  refine jy_aload_n hS rfl rfl ?_
  refine jy_iload hS rfl rfl ?_
  refine jy_iconst hS rfl ?_
  refine jy_iadd hS rfl ?_
  refine jy_sld hS rfl (by omega) (by omega) ?_
  refine jy_aload_n hS rfl rfl ?_
  refine jy_iload hS rfl rfl ?_
  refine jy_iconst hS rfl ?_
  refine jy_iadd hS rfl ?_
  refine jy_sld hS rfl (by omega) (by omega) ?_
  refine jy_aload_n hS rfl rfl ?_
  refine jy_iload hS rfl rfl ?_
  refine jy_iconst hS rfl ?_
  refine jy_iadd hS rfl ?_
  refine jy_sld hS rfl (by omega) (by omega) ?_
  refine jy_aload_n hS rfl rfl ?_
  refine jy_callS hS rfl rfl rfl (Nat.le_of_ble_eq_true rfl) (wr_8 hV (LJ_a h) h.2.2.2 (kc_8 hV (a1 := (V.2.2.2.2.2.2.2 (i + 1).toNat).toInt) (a2 := (V.2.2.2.2.2.2.2 (i + 2).toNat).toInt) (a3 := (V.2.2.2.2.2.2.2 (i + 3).toNat).toInt) h.1 h.2.2.1 (jy_rng _) (jy_rng _) (jy_rng _)) oe_i_8) (by decide) ⟨by (try dsimp only); omega, by (try dsimp only); omega⟩ (Nat.le_of_ble_eq_true rfl) ?_ (fun _ _ _ _ q => q.elim)
  rintro rv X1 I1 R1 ⟨x1, x2, hq⟩
  obtain ⟨w, s1, rfl, hC1, hg1, hf1, hs1⟩ := comb_A oe_i_8 (by decide) h.2.2.1 hq
  have hw := SO_rng hs1
  have hM1 := MI_B h.2.1 h.2.2.1 x2 hf1
  change J 757 [jy w] _ _ _ _ _
  refine jy_istore hS rfl (Nat.le_of_ble_eq_true rfl) (L' := [some (.ref V.2.2.2.2.2.1), some (.ref a), some (.ref (a + 147)), some (.ref u), some (jy i), some (jy w), none, none]) rfl ?_
  refine jy_aload_n hS rfl rfl ?_
  refine jy_aload_n hS rfl rfl ?_
  refine jy_iload hS rfl rfl ?_
  refine jy_iconst hS rfl ?_
  refine jy_iadd hS rfl ?_
  refine jy_sld hS rfl (by omega) (by omega) ?_
  refine jy_aload_n hS rfl rfl ?_
  refine jy_iload hS rfl rfl ?_
  refine jy_iconst hS rfl ?_
  refine jy_iadd hS rfl ?_
  refine jy_sld hS rfl (by omega) (by omega) ?_
  refine jy_aload_n hS rfl rfl ?_
  refine jy_iload hS rfl rfl ?_
  refine jy_iconst hS rfl ?_
  refine jy_iadd hS rfl ?_
  refine jy_sld hS rfl (by omega) (by omega) ?_
  obtain ⟨Q1, QE1, hK2, m1, m2⟩ := mc_8 hV (a1 := (V.2.2.2.2.2.2.2 (i + 1).toNat).toInt) (a2 := (V.2.2.2.2.2.2.2 (i + 2).toNat).toInt) (a3 := (V.2.2.2.2.2.2.2 (i + 3).toNat).toInt) hM1 h.2.2.1 (jy_rng _) (jy_rng _) (jy_rng _)
  refine jy_callV hS rfl rfl rfl (Nat.le_of_ble_eq_true rfl) (Or.inl (MI_m hM1)) hK2 (by decide) ⟨Nat.zero_le _, Nat.zero_le _⟩ (Nat.le_of_ble_eq_true rfl) ?_ (fun _ _ _ _ q => (m2 _ _ _ q.2.2 : False).elim)
  rintro rv2 X2 I2 R2 ⟨e2, hq2⟩
  rw [e2]
  obtain ⟨eR, hf2, hM2, ht2, ⟨r, rfl⟩, hv2⟩ := comb_M ty_int hs1 (m1 _ _ _ hq2)
  rw [eR]
  have hL := LJ_2 hC1 x2 h.2.2.2 hg1 hf2 hM2
  change J 781 [jy r] _ _ _ _ _
  refine jy_istore hS rfl (Nat.le_of_ble_eq_true rfl) (L' := [some (.ref V.2.2.2.2.2.1), some (.ref a), some (.ref (a + 147)), some (.ref u), some (jy i), some (jy w), some (jy r), none]) rfl ?_
  refine jy_aload_n hS rfl rfl ?_
  refine jy_callV hS rfl rfl rfl (Nat.le_of_ble_eq_true rfl) (Or.inl (MI_m hM2)) (cz_201 hV hM2.1 (QE := fun _ _ => False)) (by decide) ⟨Nat.zero_le _, Nat.zero_le _⟩ (Nat.le_of_ble_eq_true rfl) ?_ (fun _ _ _ _ q => q.2.2.2.elim)
  rintro rv3 X3 I3 R3 ⟨e3, e4, rfl, e5⟩
  rw [e3, e4, e5, ht2]
  change J 787 [jy w] _ _ _ _ _
  refine jy_iload hS rfl rfl ?_
  refine jy_icmp_s hS rfl ?_
  refine jy_iload hS rfl rfl ?_
  refine jy_if_ne hS rfl (by omega) (fun h0 => ?_) (fun h0 => ?_)
  · refine jy_goto hS rfl ?_
    exact jy_join hS (k _ _ _ _ _ hL ⟨by (try dsimp only); omega, by (try dsimp only); omega⟩) rfl (jy_sub_s (jy_sub_s (jy_sub_s (jy_sub_s (jy_sub_s (jy_sub_n (jy_sub_n (jy_sub_n jy_sub_0))))))))
  · obtain ⟨hv3, hv4⟩ := hv2 h0
    have hv5 := Option.some.inj hv4
    rw [hv5]
    refine jy_aload_n hS rfl rfl ?_
    refine jy_iconst hS rfl ?_
    refine jy_lald hS rfl hL.2.2.2 (by decide) (by omega) ?_
    refine jy_iload hS rfl rfl ?_
    refine jy_i2l hS rfl rfl ?_
    refine jy_lcmp_s hS rfl hv3 ?_
    refine jy_if_0 hS rfl ?_
    refine jy_goto hS rfl ?_
    exact jy_join hS (k _ _ _ _ _ hL ⟨by (try dsimp only); omega, by (try dsimp only); omega⟩) rfl (jy_sub_s (jy_sub_s (jy_sub_s (jy_sub_s (jy_sub_s (jy_sub_n (jy_sub_n (jy_sub_n jy_sub_0))))))))
def cd_9 : List jx_row := [(814, (.aload_n 1), 815, 0, 0, 0), (815, (.aload_n 0), 816, 0, 0, 0), (816, (.iload 4), 818, 0, 0, 0), (818, (.iconst 1), 819, 0, 0, 0), (819, .iadd, 820, 0, 0, 0), (820, .iaload, 821, 0, 0, 0), (821, (.aload_n 0), 822, 0, 0, 0), (822, (.iload 4), 824, 0, 0, 0), (824, (.iconst 2), 825, 0, 0, 0), (825, .iadd, 826, 0, 0, 0), (826, .iaload, 827, 0, 0, 0), (827, (.aload_n 3), 828, 0, 0, 0), (828, (.invokestatic 187), 831, 344, 4, 2), (831, (.istore 5), 833, 0, 0, 0), (833, (.aload_n 2), 834, 0, 0, 0), (834, (.aload_n 0), 835, 0, 0, 0), (835, (.iload 4), 837, 0, 0, 0), (837, (.iconst 1), 838, 0, 0, 0), (838, .iadd, 839, 0, 0, 0), (839, .iaload, 840, 0, 0, 0), (840, (.aload_n 0), 841, 0, 0, 0), (841, (.iload 4), 843, 0, 0, 0), (843, (.iconst 2), 844, 0, 0, 0), (844, .iadd, 845, 0, 0, 0), (845, .iaload, 846, 0, 0, 0), (846, (.invokevirtual 189), 849, 239, 2, 0), (849, (.istore 6), 851, 0, 0, 0), (851, (.aload_n 2), 852, 0, 0, 0), (852, (.invokevirtual 160), 855, 201, 0, 0), (855, (.iload 5), 857, 0, 0, 0), (857, (.if_icmp .eq 5), 860, 862, 0, 0), (860, (.iconst 0), 861, 0, 0, 0), (861, .ireturn, 862, 0, 0, 0), (862, (.iload 5), 864, 0, 0, 0), (864, (.ifCond .ne 15), 867, 879, 0, 0), (867, (.aload_n 3), 868, 0, 0, 0), (868, (.iconst 0), 869, 0, 0, 0), (869, .laload, 870, 0, 0, 0), (870, (.iload 6), 872, 0, 0, 0), (872, .i2l, 873, 0, 0, 0), (873, .lcmp, 874, 0, 0, 0), (874, (.ifCond .eq 5), 877, 879, 0, 0), (877, (.iconst 0), 878, 0, 0, 0), (878, .ireturn, 879, 0, 0, 0), (879, (.goto 2283), 882, 3162, 0, 0)]
theorem cs_9 : cd_9.all (fun q => decide (jx_at jx_c377 q.1 = some q.2)) = true := by decide +kernel
theorem oe_i_9 {s : YZ} {a1 : Int} {a2 : Int} : ∀ k w, oe_9 s a1 a2 = some (k, w) → (k, w) ∈ [((0 : Nat), (1 : Int)), ((1 : Nat), (2 : Int))] := by
  unfold oe_9
  exact nzw_i (by decide) (nzw_i (by decide) (fun _ _ h => by cases h))
set_option maxRecDepth 20000 in
theorem cl_9 {V : jx_V} (hV : V.1.stackTraces = false) {rt : Option FieldType} {J : jx_Jt} {KR : Option Value → Nat × Nat → jx_X → jx_I → jx_R → Prop} {KX : String → Nat × Nat → jx_X → jx_I → jx_R → Prop} (hS : jx_Snd V 205 rt [] false jx_c377 J KR KX) {X : jx_X} {R : jx_R} {I : jx_I} {a u : Nat} {s : YZ} {i : Int} {b : Nat × Nat} (h : LJ X R I a u s) (hi : 0 ≤ i ∧ i + 6 ≤ (V.2.2.2.2.2.2.1 : Nat)) (hn : V.2.2.2.2.2.2.1 ≤ 3072) (hb : 4 ≤ b.1 ∧ 24 ≤ b.2)
    (k : ∀ (X' : jx_X) (I' : jx_I) (R' : jx_R) (s' : YZ) (b' : Nat × Nat), LJ X' R' I' a u s' → b.1 ≤ b'.1 + 4 ∧ b.2 ≤ b'.2 + 24 → J 3162 [] [some (.ref V.2.2.2.2.2.1), some (.ref a), some (.ref (a + 147)), some (.ref u), some (jy i), none, none, none] b' X' I' R') : J 814 [] [some (.ref V.2.2.2.2.2.1), some (.ref a), some (.ref (a + 147)), some (.ref u), some (jy i), none, none, none] b X I R := by
  have hS := jx_piece hS cs_9
  refine jy_aload_n hS rfl rfl ?_
  refine jy_aload_n hS rfl rfl ?_
  refine jy_iload hS rfl rfl ?_
  refine jy_iconst hS rfl ?_
  refine jy_iadd hS rfl ?_
  refine jy_sld hS rfl (by omega) (by omega) ?_
  refine jy_aload_n hS rfl rfl ?_
  refine jy_iload hS rfl rfl ?_
  refine jy_iconst hS rfl ?_
  refine jy_iadd hS rfl ?_
  refine jy_sld hS rfl (by omega) (by omega) ?_
  refine jy_aload_n hS rfl rfl ?_
  refine jy_callS hS rfl rfl rfl (Nat.le_of_ble_eq_true rfl) (wr_9 hV (LJ_a h) h.2.2.2 (kc_9 hV (a1 := (V.2.2.2.2.2.2.2 (i + 1).toNat).toInt) (a2 := (V.2.2.2.2.2.2.2 (i + 2).toNat).toInt) h.1 h.2.2.1 (jy_rng _) (jy_rng _)) oe_i_9) (by decide) ⟨by (try dsimp only); omega, by (try dsimp only); omega⟩ (Nat.le_of_ble_eq_true rfl) ?_ (fun _ _ _ _ q => q.elim)
  rintro rv X1 I1 R1 ⟨x1, x2, hq⟩
  obtain ⟨w, s1, rfl, hC1, hg1, hf1, hs1⟩ := comb_A oe_i_9 (by decide) h.2.2.1 hq
  have hw := SO_rng hs1
  have hM1 := MI_B h.2.1 h.2.2.1 x2 hf1
  change J 831 [jy w] _ _ _ _ _
  refine jy_istore hS rfl (Nat.le_of_ble_eq_true rfl) (L' := [some (.ref V.2.2.2.2.2.1), some (.ref a), some (.ref (a + 147)), some (.ref u), some (jy i), some (jy w), none, none]) rfl ?_
  refine jy_aload_n hS rfl rfl ?_
  refine jy_aload_n hS rfl rfl ?_
  refine jy_iload hS rfl rfl ?_
  refine jy_iconst hS rfl ?_
  refine jy_iadd hS rfl ?_
  refine jy_sld hS rfl (by omega) (by omega) ?_
  refine jy_aload_n hS rfl rfl ?_
  refine jy_iload hS rfl rfl ?_
  refine jy_iconst hS rfl ?_
  refine jy_iadd hS rfl ?_
  refine jy_sld hS rfl (by omega) (by omega) ?_
  obtain ⟨Q1, QE1, hK2, m1, m2⟩ := mc_9 hV (a1 := (V.2.2.2.2.2.2.2 (i + 1).toNat).toInt) (a2 := (V.2.2.2.2.2.2.2 (i + 2).toNat).toInt) hM1 h.2.2.1 (jy_rng _) (jy_rng _)
  refine jy_callV hS rfl rfl rfl (Nat.le_of_ble_eq_true rfl) (Or.inl (MI_m hM1)) hK2 (by decide) ⟨Nat.zero_le _, Nat.zero_le _⟩ (Nat.le_of_ble_eq_true rfl) ?_ (fun _ _ _ _ q => (m2 _ _ _ q.2.2 : False).elim)
  rintro rv2 X2 I2 R2 ⟨e2, hq2⟩
  rw [e2]
  obtain ⟨eR, hf2, hM2, ht2, ⟨r, rfl⟩, hv2⟩ := comb_M ty_int hs1 (m1 _ _ _ hq2)
  rw [eR]
  have hL := LJ_2 hC1 x2 h.2.2.2 hg1 hf2 hM2
  change J 849 [jy r] _ _ _ _ _
  refine jy_istore hS rfl (Nat.le_of_ble_eq_true rfl) (L' := [some (.ref V.2.2.2.2.2.1), some (.ref a), some (.ref (a + 147)), some (.ref u), some (jy i), some (jy w), some (jy r), none]) rfl ?_
  refine jy_aload_n hS rfl rfl ?_
  refine jy_callV hS rfl rfl rfl (Nat.le_of_ble_eq_true rfl) (Or.inl (MI_m hM2)) (cz_201 hV hM2.1 (QE := fun _ _ => False)) (by decide) ⟨Nat.zero_le _, Nat.zero_le _⟩ (Nat.le_of_ble_eq_true rfl) ?_ (fun _ _ _ _ q => q.2.2.2.elim)
  rintro rv3 X3 I3 R3 ⟨e3, e4, rfl, e5⟩
  rw [e3, e4, e5, ht2]
  change J 855 [jy w] _ _ _ _ _
  refine jy_iload hS rfl rfl ?_
  refine jy_icmp_s hS rfl ?_
  refine jy_iload hS rfl rfl ?_
  refine jy_if_ne hS rfl (by omega) (fun h0 => ?_) (fun h0 => ?_)
  · refine jy_goto hS rfl ?_
    exact jy_join hS (k _ _ _ _ _ hL ⟨by (try dsimp only); omega, by (try dsimp only); omega⟩) rfl (jy_sub_s (jy_sub_s (jy_sub_s (jy_sub_s (jy_sub_s (jy_sub_n (jy_sub_n (jy_sub_n jy_sub_0))))))))
  · obtain ⟨hv3, hv4⟩ := hv2 h0
    have hv5 := Option.some.inj hv4
    rw [hv5]
    refine jy_aload_n hS rfl rfl ?_
    refine jy_iconst hS rfl ?_
    refine jy_lald hS rfl hL.2.2.2 (by decide) (by omega) ?_
    refine jy_iload hS rfl rfl ?_
    refine jy_i2l hS rfl rfl ?_
    refine jy_lcmp_s hS rfl hv3 ?_
    refine jy_if_0 hS rfl ?_
    refine jy_goto hS rfl ?_
    exact jy_join hS (k _ _ _ _ _ hL ⟨by (try dsimp only); omega, by (try dsimp only); omega⟩) rfl (jy_sub_s (jy_sub_s (jy_sub_s (jy_sub_s (jy_sub_s (jy_sub_n (jy_sub_n (jy_sub_n jy_sub_0))))))))
def cd_10 : List jx_row := [(882, (.aload_n 1), 883, 0, 0, 0), (883, (.aload_n 0), 884, 0, 0, 0), (884, (.iload 4), 886, 0, 0, 0), (886, (.iconst 1), 887, 0, 0, 0), (887, .iadd, 888, 0, 0, 0), (888, .iaload, 889, 0, 0, 0), (889, (.aload_n 0), 890, 0, 0, 0), (890, (.iload 4), 892, 0, 0, 0), (892, (.iconst 2), 893, 0, 0, 0), (893, .iadd, 894, 0, 0, 0), (894, .iaload, 895, 0, 0, 0), (895, .i2l, 896, 0, 0, 0), (896, (.bipush 32), 898, 0, 0, 0), (898, .lshl, 899, 0, 0, 0), (899, (.aload_n 0), 900, 0, 0, 0), (900, (.iload 4), 902, 0, 0, 0), (902, (.iconst 3), 903, 0, 0, 0), (903, .iadd, 904, 0, 0, 0), (904, .iaload, 905, 0, 0, 0), (905, .i2l, 906, 0, 0, 0), (906, (.ldc2_w 190), 909, 5, 0, 0), (909, .land, 910, 0, 0, 0), (910, .lor, 911, 0, 0, 0), (911, (.aload_n 3), 912, 0, 0, 0), (912, (.invokestatic 192), 915, 345, 4, 2), (915, (.istore 5), 917, 0, 0, 0), (917, (.aload_n 2), 918, 0, 0, 0), (918, (.aload_n 0), 919, 0, 0, 0), (919, (.iload 4), 921, 0, 0, 0), (921, (.iconst 1), 922, 0, 0, 0), (922, .iadd, 923, 0, 0, 0), (923, .iaload, 924, 0, 0, 0), (924, (.aload_n 0), 925, 0, 0, 0), (925, (.iload 4), 927, 0, 0, 0), (927, (.iconst 2), 928, 0, 0, 0), (928, .iadd, 929, 0, 0, 0), (929, .iaload, 930, 0, 0, 0), (930, .i2l, 931, 0, 0, 0), (931, (.bipush 32), 933, 0, 0, 0), (933, .lshl, 934, 0, 0, 0), (934, (.aload_n 0), 935, 0, 0, 0), (935, (.iload 4), 937, 0, 0, 0), (937, (.iconst 3), 938, 0, 0, 0), (938, .iadd, 939, 0, 0, 0), (939, .iaload, 940, 0, 0, 0), (940, .i2l, 941, 0, 0, 0), (941, (.ldc2_w 190), 944, 5, 0, 0), (944, .land, 945, 0, 0, 0), (945, .lor, 946, 0, 0, 0), (946, (.invokevirtual 195), 949, 241, 2, 0), (949, (.istore 6), 951, 0, 0, 0), (951, (.aload_n 2), 952, 0, 0, 0), (952, (.invokevirtual 160), 955, 201, 0, 0), (955, (.iload 5), 957, 0, 0, 0), (957, (.if_icmp .eq 5), 960, 962, 0, 0), (960, (.iconst 0), 961, 0, 0, 0), (961, .ireturn, 962, 0, 0, 0), (962, (.iload 5), 964, 0, 0, 0), (964, (.ifCond .ne 15), 967, 979, 0, 0), (967, (.aload_n 3), 968, 0, 0, 0), (968, (.iconst 0), 969, 0, 0, 0), (969, .laload, 970, 0, 0, 0), (970, (.iload 6), 972, 0, 0, 0), (972, .i2l, 973, 0, 0, 0), (973, .lcmp, 974, 0, 0, 0), (974, (.ifCond .eq 5), 977, 979, 0, 0), (977, (.iconst 0), 978, 0, 0, 0), (978, .ireturn, 979, 0, 0, 0), (979, (.goto 2183), 982, 3162, 0, 0)]
theorem cs_10 : cd_10.all (fun q => decide (jx_at jx_c377 q.1 = some q.2)) = true := by decide +kernel
theorem oe_i_10 {s : YZ} {a1 : Int} {a2 : Int64} : ∀ k w, oe_10 s a1 a2 = some (k, w) → (k, w) ∈ [((2 : Nat), (1 : Int))] := by
  unfold oe_10
  exact nzw_i (by decide) (fun _ _ h => by cases h)
set_option maxRecDepth 20000 in
theorem cl_10 {V : jx_V} (hV : V.1.stackTraces = false) {rt : Option FieldType} {J : jx_Jt} {KR : Option Value → Nat × Nat → jx_X → jx_I → jx_R → Prop} {KX : String → Nat × Nat → jx_X → jx_I → jx_R → Prop} (hS : jx_Snd V 205 rt [] false jx_c377 J KR KX) {X : jx_X} {R : jx_R} {I : jx_I} {a u : Nat} {s : YZ} {i : Int} {b : Nat × Nat} (h : LJ X R I a u s) (hi : 0 ≤ i ∧ i + 6 ≤ (V.2.2.2.2.2.2.1 : Nat)) (hn : V.2.2.2.2.2.2.1 ≤ 3072) (hb : 4 ≤ b.1 ∧ 24 ≤ b.2)
    (k : ∀ (X' : jx_X) (I' : jx_I) (R' : jx_R) (s' : YZ) (b' : Nat × Nat), LJ X' R' I' a u s' → b.1 ≤ b'.1 + 4 ∧ b.2 ≤ b'.2 + 24 → J 3162 [] [some (.ref V.2.2.2.2.2.1), some (.ref a), some (.ref (a + 147)), some (.ref u), some (jy i), none, none, none] b' X' I' R') : J 882 [] [some (.ref V.2.2.2.2.2.1), some (.ref a), some (.ref (a + 147)), some (.ref u), some (jy i), none, none, none] b X I R := by
  have hS := jx_piece hS cs_10
  refine jy_aload_n hS rfl rfl ?_
  refine jy_aload_n hS rfl rfl ?_
  refine jy_iload hS rfl rfl ?_
  refine jy_iconst hS rfl ?_
  refine jy_iadd hS rfl ?_
  refine jy_sld hS rfl (by omega) (by omega) ?_
  refine jy_aload_n hS rfl rfl ?_
  refine jy_iload hS rfl rfl ?_
  refine jy_iconst hS rfl ?_
  refine jy_iadd hS rfl ?_
  refine jy_sld hS rfl (by omega) (by omega) ?_
  refine jy_i2l hS rfl rfl ?_
  refine jy_bipush hS rfl (by decide) ?_
  refine jy_lshl hS rfl rfl ?_
  refine jy_aload_n hS rfl rfl ?_
  refine jy_iload hS rfl rfl ?_
  refine jy_iconst hS rfl ?_
  refine jy_iadd hS rfl ?_
  refine jy_sld hS rfl (by omega) (by omega) ?_
  refine jy_i2l hS rfl rfl ?_
  refine jy_ldc2 hS rfl (n := 4294967295) (by decide) ?_
  refine jy_land hS rfl rfl ?_
  refine jy_lor hS rfl rfl ?_
  refine jy_aload_n hS rfl rfl ?_
  refine jy_callS hS rfl rfl rfl (Nat.le_of_ble_eq_true rfl) (wr_10 hV (LJ_a h) h.2.2.2 (kc_10 hV (a1 := (V.2.2.2.2.2.2.2 (i + 1).toNat).toInt) (a2 := (((Int32.ofInt (V.2.2.2.2.2.2.2 (i + 2).toNat).toInt).toInt64 <<< ((Int32.ofInt 32).toInt64 &&& 63)) ||| ((Int32.ofInt (V.2.2.2.2.2.2.2 (i + 3).toNat).toInt).toInt64 &&& 4294967295))) h.1 h.2.2.1 (jy_rng _)) oe_i_10) (by decide) ⟨by (try dsimp only); omega, by (try dsimp only); omega⟩ (Nat.le_of_ble_eq_true rfl) ?_ (fun _ _ _ _ q => q.elim)
  rintro rv X1 I1 R1 ⟨x1, x2, hq⟩
  obtain ⟨w, s1, rfl, hC1, hg1, hf1, hs1⟩ := comb_A oe_i_10 (by decide) h.2.2.1 hq
  have hw := SO_rng hs1
  have hM1 := MI_B h.2.1 h.2.2.1 x2 hf1
  change J 915 [jy w] _ _ _ _ _
  refine jy_istore hS rfl (Nat.le_of_ble_eq_true rfl) (L' := [some (.ref V.2.2.2.2.2.1), some (.ref a), some (.ref (a + 147)), some (.ref u), some (jy i), some (jy w), none, none]) rfl ?_
  refine jy_aload_n hS rfl rfl ?_
  refine jy_aload_n hS rfl rfl ?_
  refine jy_iload hS rfl rfl ?_
  refine jy_iconst hS rfl ?_
  refine jy_iadd hS rfl ?_
  refine jy_sld hS rfl (by omega) (by omega) ?_
  refine jy_aload_n hS rfl rfl ?_
  refine jy_iload hS rfl rfl ?_
  refine jy_iconst hS rfl ?_
  refine jy_iadd hS rfl ?_
  refine jy_sld hS rfl (by omega) (by omega) ?_
  refine jy_i2l hS rfl rfl ?_
  refine jy_bipush hS rfl (by decide) ?_
  refine jy_lshl hS rfl rfl ?_
  refine jy_aload_n hS rfl rfl ?_
  refine jy_iload hS rfl rfl ?_
  refine jy_iconst hS rfl ?_
  refine jy_iadd hS rfl ?_
  refine jy_sld hS rfl (by omega) (by omega) ?_
  refine jy_i2l hS rfl rfl ?_
  refine jy_ldc2 hS rfl (n := 4294967295) (by decide) ?_
  refine jy_land hS rfl rfl ?_
  refine jy_lor hS rfl rfl ?_
  obtain ⟨Q1, QE1, hK2, m1, m2⟩ := mc_10 hV (a1 := (V.2.2.2.2.2.2.2 (i + 1).toNat).toInt) (a2 := (((Int32.ofInt (V.2.2.2.2.2.2.2 (i + 2).toNat).toInt).toInt64 <<< ((Int32.ofInt 32).toInt64 &&& 63)) ||| ((Int32.ofInt (V.2.2.2.2.2.2.2 (i + 3).toNat).toInt).toInt64 &&& 4294967295))) hM1 h.2.2.1 (jy_rng _)
  refine jy_callV hS rfl rfl rfl (Nat.le_of_ble_eq_true rfl) (Or.inl (MI_m hM1)) hK2 (by decide) ⟨Nat.zero_le _, Nat.zero_le _⟩ (Nat.le_of_ble_eq_true rfl) ?_ (fun _ _ _ _ q => (m2 _ _ _ q.2.2 : False).elim)
  rintro rv2 X2 I2 R2 ⟨e2, hq2⟩
  rw [e2]
  obtain ⟨eR, hf2, hM2, ht2, ⟨r, rfl⟩, hv2⟩ := comb_M ty_int hs1 (m1 _ _ _ hq2)
  rw [eR]
  have hL := LJ_2 hC1 x2 h.2.2.2 hg1 hf2 hM2
  change J 949 [jy r] _ _ _ _ _
  refine jy_istore hS rfl (Nat.le_of_ble_eq_true rfl) (L' := [some (.ref V.2.2.2.2.2.1), some (.ref a), some (.ref (a + 147)), some (.ref u), some (jy i), some (jy w), some (jy r), none]) rfl ?_
  refine jy_aload_n hS rfl rfl ?_
  refine jy_callV hS rfl rfl rfl (Nat.le_of_ble_eq_true rfl) (Or.inl (MI_m hM2)) (cz_201 hV hM2.1 (QE := fun _ _ => False)) (by decide) ⟨Nat.zero_le _, Nat.zero_le _⟩ (Nat.le_of_ble_eq_true rfl) ?_ (fun _ _ _ _ q => q.2.2.2.elim)
  rintro rv3 X3 I3 R3 ⟨e3, e4, rfl, e5⟩
  rw [e3, e4, e5, ht2]
  change J 955 [jy w] _ _ _ _ _
  refine jy_iload hS rfl rfl ?_
  refine jy_icmp_s hS rfl ?_
  refine jy_iload hS rfl rfl ?_
  refine jy_if_ne hS rfl (by omega) (fun h0 => ?_) (fun h0 => ?_)
  · refine jy_goto hS rfl ?_
    exact jy_join hS (k _ _ _ _ _ hL ⟨by (try dsimp only); omega, by (try dsimp only); omega⟩) rfl (jy_sub_s (jy_sub_s (jy_sub_s (jy_sub_s (jy_sub_s (jy_sub_n (jy_sub_n (jy_sub_n jy_sub_0))))))))
  · obtain ⟨hv3, hv4⟩ := hv2 h0
    have hv5 := Option.some.inj hv4
    rw [hv5]
    refine jy_aload_n hS rfl rfl ?_
    refine jy_iconst hS rfl ?_
    refine jy_lald hS rfl hL.2.2.2 (by decide) (by omega) ?_
    refine jy_iload hS rfl rfl ?_
    refine jy_i2l hS rfl rfl ?_
    refine jy_lcmp_s hS rfl hv3 ?_
    refine jy_if_0 hS rfl ?_
    refine jy_goto hS rfl ?_
    exact jy_join hS (k _ _ _ _ _ hL ⟨by (try dsimp only); omega, by (try dsimp only); omega⟩) rfl (jy_sub_s (jy_sub_s (jy_sub_s (jy_sub_s (jy_sub_s (jy_sub_n (jy_sub_n (jy_sub_n jy_sub_0))))))))
def cd_11 : List jx_row := [(982, (.aload_n 1), 983, 0, 0, 0), (983, (.aload_n 0), 984, 0, 0, 0), (984, (.iload 4), 986, 0, 0, 0), (986, (.iconst 1), 987, 0, 0, 0), (987, .iadd, 988, 0, 0, 0), (988, .iaload, 989, 0, 0, 0), (989, (.invokevirtual 196), 992, 147, 1, 0), (992, (.aload_n 2), 993, 0, 0, 0), (993, (.aload_n 0), 994, 0, 0, 0), (994, (.iload 4), 996, 0, 0, 0), (996, (.iconst 1), 997, 0, 0, 0), (997, .iadd, 998, 0, 0, 0), (998, .iaload, 999, 0, 0, 0), (999, (.invokevirtual 199), 1002, 242, 1, 0), (1002, (.if_icmp .eq 2160), 1005, 3162, 0, 0), (1005, (.iconst 0), 1006, 0, 0, 0), (1006, .ireturn, 1007, 0, 0, 0)]
theorem cs_11 : cd_11.all (fun q => decide (jx_at jx_c377 q.1 = some q.2)) = true := by decide +kernel
set_option maxRecDepth 20000 in
theorem cl_11 {V : jx_V} (hV : V.1.stackTraces = false) {rt : Option FieldType} {J : jx_Jt} {KR : Option Value → Nat × Nat → jx_X → jx_I → jx_R → Prop} {KX : String → Nat × Nat → jx_X → jx_I → jx_R → Prop} (hS : jx_Snd V 205 rt [] false jx_c377 J KR KX) {X : jx_X} {R : jx_R} {I : jx_I} {a u : Nat} {s : YZ} {i : Int} {b : Nat × Nat} (h : LJ X R I a u s) (hi : 0 ≤ i ∧ i + 6 ≤ (V.2.2.2.2.2.2.1 : Nat)) (hn : V.2.2.2.2.2.2.1 ≤ 3072) (hb : 4 ≤ b.1 ∧ 24 ≤ b.2)
    (k : ∀ (X' : jx_X) (I' : jx_I) (R' : jx_R) (s' : YZ) (b' : Nat × Nat), LJ X' R' I' a u s' → b.1 ≤ b'.1 + 4 ∧ b.2 ≤ b'.2 + 24 → J 3162 [] [some (.ref V.2.2.2.2.2.1), some (.ref a), some (.ref (a + 147)), some (.ref u), some (jy i), none, none, none] b' X' I' R') : J 982 [] [some (.ref V.2.2.2.2.2.1), some (.ref a), some (.ref (a + 147)), some (.ref u), some (jy i), none, none, none] b X I R := by
  have hS := jx_piece hS cs_11
  refine jy_aload_n hS rfl rfl ?_
  refine jy_aload_n hS rfl rfl ?_
  refine jy_iload hS rfl rfl ?_
  refine jy_iconst hS rfl ?_
  refine jy_iadd hS rfl ?_
  refine jy_sld hS rfl (by omega) (by omega) ?_
  obtain ⟨Q0, QE0, hK, k1, k2⟩ := kc_11 hV (a1 := (V.2.2.2.2.2.2.2 (i + 1).toNat).toInt) h.1 h.2.2.1 (jy_rng _)
  refine jy_callV hS rfl rfl rfl (Nat.le_of_ble_eq_true rfl) (Or.inl (LJ_a h)) hK (by decide) ⟨Nat.zero_le _, Nat.zero_le _⟩ (Nat.le_of_ble_eq_true rfl) ?_ (fun _ _ _ _ q => (k2 _ _ _ q.2.2 : False).elim)
  rintro rv X1 I1 R1 ⟨e1, hq⟩
  rw [e1]
  obtain ⟨rfl, hC1, hg1, hf1⟩ := KQ_n (k1 _ _ _ hq)
  have hM1 := MI_B h.2.1 h.2.2.1 (X' := X) rfl hf1
  change J 992 [jy (ov_11 s ((V.2.2.2.2.2.2.2 (i + 1).toNat).toInt))] _ _ _ _ _
  refine jy_aload_n hS rfl rfl ?_
  refine jy_aload_n hS rfl rfl ?_
  refine jy_iload hS rfl rfl ?_
  refine jy_iconst hS rfl ?_
  refine jy_iadd hS rfl ?_
  refine jy_sld hS rfl (by omega) (by omega) ?_
  obtain ⟨Q1, QE1, hK2, m1, m2⟩ := mc_11 hV (a1 := (V.2.2.2.2.2.2.2 (i + 1).toNat).toInt) hM1 h.2.2.1 (jy_rng _)
  refine jy_callV hS rfl rfl rfl (Nat.le_of_ble_eq_true rfl) (Or.inl (MI_m hM1)) hK2 (by decide) ⟨Nat.zero_le _, Nat.zero_le _⟩ (Nat.le_of_ble_eq_true rfl) ?_ (fun _ _ _ _ q => (m2 _ _ _ q.2.2 : False).elim)
  rintro rv2 X2 I2 R2 ⟨e2, hq2⟩
  rw [e2]
  obtain ⟨eR, hf2, hM2, rfl⟩ := MQ_n (m1 _ _ _ hq2)
  rw [eR]
  have hL := LJ_2 hC1 (X' := X) rfl h.2.2.2 hg1 hf2 hM2
  change J 1002 [jy (ov_11 s ((V.2.2.2.2.2.2.2 (i + 1).toNat).toInt)), jy (ov_11 s ((V.2.2.2.2.2.2.2 (i + 1).toNat).toInt))] _ _ _ _ _
  refine jy_icmp_s hS rfl ?_
  exact jy_join hS (k _ _ _ _ _ hL ⟨by (try dsimp only); omega, by (try dsimp only); omega⟩) rfl (jy_sub_s (jy_sub_s (jy_sub_s (jy_sub_s (jy_sub_s (jy_sub_n (jy_sub_n (jy_sub_n jy_sub_0))))))))
def cd_12 : List jx_row := [(1007, (.aload_n 1), 1008, 0, 0, 0), (1008, (.aload_n 0), 1009, 0, 0, 0), (1009, (.iload 4), 1011, 0, 0, 0), (1011, (.iconst 1), 1012, 0, 0, 0), (1012, .iadd, 1013, 0, 0, 0), (1013, .iaload, 1014, 0, 0, 0), (1014, (.aload_n 3), 1015, 0, 0, 0), (1015, (.invokestatic 200), 1018, 346, 3, 2), (1018, (.istore 5), 1020, 0, 0, 0), (1020, (.aload_n 2), 1021, 0, 0, 0), (1021, (.aload_n 0), 1022, 0, 0, 0), (1022, (.iload 4), 1024, 0, 0, 0), (1024, (.iconst 1), 1025, 0, 0, 0), (1025, .iadd, 1026, 0, 0, 0), (1026, .iaload, 1027, 0, 0, 0), (1027, (.invokevirtual 202), 1030, 248, 1, 0), (1030, (.istore 6), 1032, 0, 0, 0), (1032, (.aload_n 2), 1033, 0, 0, 0), (1033, (.invokevirtual 160), 1036, 201, 0, 0), (1036, (.iload 5), 1038, 0, 0, 0), (1038, (.if_icmp .eq 5), 1041, 1043, 0, 0), (1041, (.iconst 0), 1042, 0, 0, 0), (1042, .ireturn, 1043, 0, 0, 0), (1043, (.iload 5), 1045, 0, 0, 0), (1045, (.ifCond .ne 15), 1048, 1060, 0, 0), (1048, (.aload_n 3), 1049, 0, 0, 0), (1049, (.iconst 0), 1050, 0, 0, 0), (1050, .laload, 1051, 0, 0, 0), (1051, (.iload 6), 1053, 0, 0, 0), (1053, .i2l, 1054, 0, 0, 0), (1054, .lcmp, 1055, 0, 0, 0), (1055, (.ifCond .eq 5), 1058, 1060, 0, 0), (1058, (.iconst 0), 1059, 0, 0, 0), (1059, .ireturn, 1060, 0, 0, 0), (1060, (.goto 2102), 1063, 3162, 0, 0)]
theorem cs_12 : cd_12.all (fun q => decide (jx_at jx_c377 q.1 = some q.2)) = true := by decide +kernel
theorem oe_i_12 {s : YZ} {a1 : Int} : ∀ k w, oe_12 s a1 = some (k, w) → (k, w) ∈ [((0 : Nat), (1 : Int))] := by
  unfold oe_12
  exact nzw_i (by decide) (fun _ _ h => by cases h)
set_option maxRecDepth 20000 in
theorem cl_12 {V : jx_V} (hV : V.1.stackTraces = false) {rt : Option FieldType} {J : jx_Jt} {KR : Option Value → Nat × Nat → jx_X → jx_I → jx_R → Prop} {KX : String → Nat × Nat → jx_X → jx_I → jx_R → Prop} (hS : jx_Snd V 205 rt [] false jx_c377 J KR KX) {X : jx_X} {R : jx_R} {I : jx_I} {a u : Nat} {s : YZ} {i : Int} {b : Nat × Nat} (h : LJ X R I a u s) (hi : 0 ≤ i ∧ i + 6 ≤ (V.2.2.2.2.2.2.1 : Nat)) (hn : V.2.2.2.2.2.2.1 ≤ 3072) (hb : 4 ≤ b.1 ∧ 24 ≤ b.2)
    (k : ∀ (X' : jx_X) (I' : jx_I) (R' : jx_R) (s' : YZ) (b' : Nat × Nat), LJ X' R' I' a u s' → b.1 ≤ b'.1 + 4 ∧ b.2 ≤ b'.2 + 24 → J 3162 [] [some (.ref V.2.2.2.2.2.1), some (.ref a), some (.ref (a + 147)), some (.ref u), some (jy i), none, none, none] b' X' I' R') : J 1007 [] [some (.ref V.2.2.2.2.2.1), some (.ref a), some (.ref (a + 147)), some (.ref u), some (jy i), none, none, none] b X I R := by
  have hS := jx_piece hS cs_12
  refine jy_aload_n hS rfl rfl ?_
  refine jy_aload_n hS rfl rfl ?_
  refine jy_iload hS rfl rfl ?_
  refine jy_iconst hS rfl ?_
  refine jy_iadd hS rfl ?_
  refine jy_sld hS rfl (by omega) (by omega) ?_
  refine jy_aload_n hS rfl rfl ?_
  refine jy_callS hS rfl rfl rfl (Nat.le_of_ble_eq_true rfl) (wr_12 hV (LJ_a h) h.2.2.2 (kc_12 hV (a1 := (V.2.2.2.2.2.2.2 (i + 1).toNat).toInt) h.1 h.2.2.1 (jy_rng _)) oe_i_12) (by decide) ⟨by (try dsimp only); omega, by (try dsimp only); omega⟩ (Nat.le_of_ble_eq_true rfl) ?_ (fun _ _ _ _ q => q.elim)
  rintro rv X1 I1 R1 ⟨x1, x2, hq⟩
  obtain ⟨w, s1, rfl, hC1, hg1, hf1, hs1⟩ := comb_A oe_i_12 (by decide) h.2.2.1 hq
  have hw := SO_rng hs1
  have hM1 := MI_B h.2.1 h.2.2.1 x2 hf1
  change J 1018 [jy w] _ _ _ _ _
  refine jy_istore hS rfl (Nat.le_of_ble_eq_true rfl) (L' := [some (.ref V.2.2.2.2.2.1), some (.ref a), some (.ref (a + 147)), some (.ref u), some (jy i), some (jy w), none, none]) rfl ?_
  refine jy_aload_n hS rfl rfl ?_
  refine jy_aload_n hS rfl rfl ?_
  refine jy_iload hS rfl rfl ?_
  refine jy_iconst hS rfl ?_
  refine jy_iadd hS rfl ?_
  refine jy_sld hS rfl (by omega) (by omega) ?_
  obtain ⟨Q1, QE1, hK2, m1, m2⟩ := mc_12 hV (a1 := (V.2.2.2.2.2.2.2 (i + 1).toNat).toInt) hM1 h.2.2.1 (jy_rng _)
  refine jy_callV hS rfl rfl rfl (Nat.le_of_ble_eq_true rfl) (Or.inl (MI_m hM1)) hK2 (by decide) ⟨Nat.zero_le _, Nat.zero_le _⟩ (Nat.le_of_ble_eq_true rfl) ?_ (fun _ _ _ _ q => (m2 _ _ _ q.2.2 : False).elim)
  rintro rv2 X2 I2 R2 ⟨e2, hq2⟩
  rw [e2]
  obtain ⟨eR, hf2, hM2, ht2, ⟨r, rfl⟩, hv2⟩ := comb_M ty_int hs1 (m1 _ _ _ hq2)
  rw [eR]
  have hL := LJ_2 hC1 x2 h.2.2.2 hg1 hf2 hM2
  change J 1030 [jy r] _ _ _ _ _
  refine jy_istore hS rfl (Nat.le_of_ble_eq_true rfl) (L' := [some (.ref V.2.2.2.2.2.1), some (.ref a), some (.ref (a + 147)), some (.ref u), some (jy i), some (jy w), some (jy r), none]) rfl ?_
  refine jy_aload_n hS rfl rfl ?_
  refine jy_callV hS rfl rfl rfl (Nat.le_of_ble_eq_true rfl) (Or.inl (MI_m hM2)) (cz_201 hV hM2.1 (QE := fun _ _ => False)) (by decide) ⟨Nat.zero_le _, Nat.zero_le _⟩ (Nat.le_of_ble_eq_true rfl) ?_ (fun _ _ _ _ q => q.2.2.2.elim)
  rintro rv3 X3 I3 R3 ⟨e3, e4, rfl, e5⟩
  rw [e3, e4, e5, ht2]
  change J 1036 [jy w] _ _ _ _ _
  refine jy_iload hS rfl rfl ?_
  refine jy_icmp_s hS rfl ?_
  refine jy_iload hS rfl rfl ?_
  refine jy_if_ne hS rfl (by omega) (fun h0 => ?_) (fun h0 => ?_)
  · refine jy_goto hS rfl ?_
    exact jy_join hS (k _ _ _ _ _ hL ⟨by (try dsimp only); omega, by (try dsimp only); omega⟩) rfl (jy_sub_s (jy_sub_s (jy_sub_s (jy_sub_s (jy_sub_s (jy_sub_n (jy_sub_n (jy_sub_n jy_sub_0))))))))
  · obtain ⟨hv3, hv4⟩ := hv2 h0
    have hv5 := Option.some.inj hv4
    rw [hv5]
    refine jy_aload_n hS rfl rfl ?_
    refine jy_iconst hS rfl ?_
    refine jy_lald hS rfl hL.2.2.2 (by decide) (by omega) ?_
    refine jy_iload hS rfl rfl ?_
    refine jy_i2l hS rfl rfl ?_
    refine jy_lcmp_s hS rfl hv3 ?_
    refine jy_if_0 hS rfl ?_
    refine jy_goto hS rfl ?_
    exact jy_join hS (k _ _ _ _ _ hL ⟨by (try dsimp only); omega, by (try dsimp only); omega⟩) rfl (jy_sub_s (jy_sub_s (jy_sub_s (jy_sub_s (jy_sub_s (jy_sub_n (jy_sub_n (jy_sub_n jy_sub_0))))))))
