/-! ===== the law, case by case: 9zw ===== -/
def cd_13 : List jx_row := [(1063, (.aload_n 1), 1064, 0, 0, 0), (1064, (.aload_n 0), 1065, 0, 0, 0), (1065, (.iload 4), 1067, 0, 0, 0), (1067, (.iconst 1), 1068, 0, 0, 0), (1068, .iadd, 1069, 0, 0, 0), (1069, .iaload, 1070, 0, 0, 0), (1070, (.aload_n 0), 1071, 0, 0, 0), (1071, (.iload 4), 1073, 0, 0, 0), (1073, (.iconst 2), 1074, 0, 0, 0), (1074, .iadd, 1075, 0, 0, 0), (1075, .iaload, 1076, 0, 0, 0), (1076, (.aload_n 3), 1077, 0, 0, 0), (1077, (.invokestatic 203), 1080, 347, 4, 2), (1080, (.istore 5), 1082, 0, 0, 0), (1082, (.aload_n 2), 1083, 0, 0, 0), (1083, (.aload_n 0), 1084, 0, 0, 0), (1084, (.iload 4), 1086, 0, 0, 0), (1086, (.iconst 1), 1087, 0, 0, 0), (1087, .iadd, 1088, 0, 0, 0), (1088, .iaload, 1089, 0, 0, 0), (1089, (.aload_n 0), 1090, 0, 0, 0), (1090, (.iload 4), 1092, 0, 0, 0), (1092, (.iconst 2), 1093, 0, 0, 0), (1093, .iadd, 1094, 0, 0, 0), (1094, .iaload, 1095, 0, 0, 0), (1095, (.invokevirtual 205), 1098, 249, 2, 0), (1098, (.istore 6), 1100, 0, 0, 0), (1100, (.aload_n 2), 1101, 0, 0, 0), (1101, (.invokevirtual 160), 1104, 201, 0, 0), (1104, (.iload 5), 1106, 0, 0, 0), (1106, (.if_icmp .eq 5), 1109, 1111, 0, 0), (1109, (.iconst 0), 1110, 0, 0, 0), (1110, .ireturn, 1111, 0, 0, 0), (1111, (.iload 5), 1113, 0, 0, 0), (1113, (.ifCond .ne 15), 1116, 1128, 0, 0), (1116, (.aload_n 3), 1117, 0, 0, 0), (1117, (.iconst 0), 1118, 0, 0, 0), (1118, .laload, 1119, 0, 0, 0), (1119, (.iload 6), 1121, 0, 0, 0), (1121, .i2l, 1122, 0, 0, 0), (1122, .lcmp, 1123, 0, 0, 0), (1123, (.ifCond .eq 5), 1126, 1128, 0, 0), (1126, (.iconst 0), 1127, 0, 0, 0), (1127, .ireturn, 1128, 0, 0, 0), (1128, (.goto 2034), 1131, 3162, 0, 0)]
theorem cs_13 : cd_13.all (fun q => decide (jx_at jx_c377 q.1 = some q.2)) = true := by decide +kernel
theorem oe_i_13 {s : YZ} {a1 : Int} {a2 : Int} : ∀ k w, oe_13 s a1 a2 = some (k, w) → (k, w) ∈ [((0 : Nat), (1 : Int)), ((2 : Nat), (2 : Int))] := by
  unfold oe_13
  exact nzw_i (by decide) (nzw_i (by decide) (fun _ _ h => by cases h))
set_option maxRecDepth 20000 in
theorem cl_13 {V : jx_V} (hV : V.1.stackTraces = false) {rt : Option FieldType} {J : jx_Jt} {KR : Option Value → Nat × Nat → jx_X → jx_I → jx_R → Prop} {KX : String → Nat × Nat → jx_X → jx_I → jx_R → Prop} (hS : jx_Snd V 205 rt [] false jx_c377 J KR KX) {X : jx_X} {R : jx_R} {I : jx_I} {a u : Nat} {s : YZ} {i : Int} {b : Nat × Nat} (h : LJ X R I a u s) (hi : 0 ≤ i ∧ i + 6 ≤ (V.2.2.2.2.2.2.1 : Nat)) (hn : V.2.2.2.2.2.2.1 ≤ 3072) (hb : 4 ≤ b.1 ∧ 24 ≤ b.2)
    (k : ∀ (X' : jx_X) (I' : jx_I) (R' : jx_R) (s' : YZ) (b' : Nat × Nat), LJ X' R' I' a u s' → b.1 ≤ b'.1 + 4 ∧ b.2 ≤ b'.2 + 24 → J 3162 [] [some (.ref V.2.2.2.2.2.1), some (.ref a), some (.ref (a + 147)), some (.ref u), some (jy i), none, none, none] b' X' I' R') : J 1063 [] [some (.ref V.2.2.2.2.2.1), some (.ref a), some (.ref (a + 147)), some (.ref u), some (jy i), none, none, none] b X I R := by
  have hS := jx_piece hS cs_13
  refine jy_aload_n hS rfl rfl ?_
  refine jy_aload_n hS rfl rfl ?_
  refine jy_iload hS rfl rfl ?_
  refine jy_iconst hS rfl ?_
  refine jy_iadd hS rfl ?_
  refine jy_sld hS rfl (by omega) (by omega) ?_
  refine jy_aload_n hS rfl rfl ?_
  refine jy_iload hS rfl rfl ?_
  refine jy_iconst hS rfl ?_
  refine jy_iadd hS rfl ?_
  refine jy_sld hS rfl (by omega) (by omega) ?_
  refine jy_aload_n hS rfl rfl ?_
  refine jy_callS hS rfl rfl rfl (Nat.le_of_ble_eq_true rfl) (wr_13 hV (LJ_a h) h.2.2.2 (kc_13 hV (a1 := (V.2.2.2.2.2.2.2 (i + 1).toNat).toInt) (a2 := (V.2.2.2.2.2.2.2 (i + 2).toNat).toInt) h.1 h.2.2.1 (jy_rng _) (jy_rng _)) oe_i_13) (by decide) ⟨by (try dsimp only); omega, by (try dsimp only); omega⟩ (Nat.le_of_ble_eq_true rfl) ?_ (fun _ _ _ _ q => q.elim)
  rintro rv X1 I1 R1 ⟨x1, x2, hq⟩
  obtain ⟨w, s1, rfl, hC1, hg1, hf1, hs1⟩ := comb_A oe_i_13 (by decide) h.2.2.1 hq
  have hw := SO_rng hs1
  have hM1 := MI_B h.2.1 h.2.2.1 x2 hf1
  change J 1080 [jy w] _ _ _ _ _
  refine jy_istore hS rfl (Nat.le_of_ble_eq_true rfl) (L' := [some (.ref V.2.2.2.2.2.1), some (.ref a), some (.ref (a + 147)), some (.ref u), some (jy i), some (jy w), none, none]) rfl ?_
  refine jy_aload_n hS rfl rfl ?_
  refine jy_aload_n hS rfl rfl ?_
  refine jy_iload hS rfl rfl ?_
  refine jy_iconst hS rfl ?_
  refine jy_iadd hS rfl ?_
  refine jy_sld hS rfl (by omega) (by omega) ?_
  refine jy_aload_n hS rfl rfl ?_
  refine jy_iload hS rfl rfl ?_
  refine jy_iconst hS rfl ?_
  refine jy_iadd hS rfl ?_
  refine jy_sld hS rfl (by omega) (by omega) ?_
  obtain ⟨Q1, QE1, hK2, m1, m2⟩ := mc_13 hV (a1 := (V.2.2.2.2.2.2.2 (i + 1).toNat).toInt) (a2 := (V.2.2.2.2.2.2.2 (i + 2).toNat).toInt) hM1 h.2.2.1 (jy_rng _) (jy_rng _)
  refine jy_callV hS rfl rfl rfl (Nat.le_of_ble_eq_true rfl) (Or.inl (MI_m hM1)) hK2 (by decide) ⟨Nat.zero_le _, Nat.zero_le _⟩ (Nat.le_of_ble_eq_true rfl) ?_ (fun _ _ _ _ q => (m2 _ _ _ q.2.2 : False).elim)
  rintro rv2 X2 I2 R2 ⟨e2, hq2⟩
  rw [e2]
  obtain ⟨eR, hf2, hM2, ht2, ⟨r, rfl⟩, hv2⟩ := comb_M ty_int hs1 (m1 _ _ _ hq2)
  rw [eR]
  have hL := LJ_2 hC1 x2 h.2.2.2 hg1 hf2 hM2
  change J 1098 [jy r] _ _ _ _ _
  refine jy_istore hS rfl (Nat.le_of_ble_eq_true rfl) (L' := [some (.ref V.2.2.2.2.2.1), some (.ref a), some (.ref (a + 147)), some (.ref u), some (jy i), some (jy w), some (jy r), none]) rfl ?_
  refine jy_aload_n hS rfl rfl ?_
  refine jy_callV hS rfl rfl rfl (Nat.le_of_ble_eq_true rfl) (Or.inl (MI_m hM2)) (cz_201 hV hM2.1 (QE := fun _ _ => False)) (by decide) ⟨Nat.zero_le _, Nat.zero_le _⟩ (Nat.le_of_ble_eq_true rfl) ?_ (fun _ _ _ _ q => q.2.2.2.elim)
  rintro rv3 X3 I3 R3 ⟨e3, e4, rfl, e5⟩
  rw [e3, e4, e5, ht2]
  change J 1104 [jy w] _ _ _ _ _
  refine jy_iload hS rfl rfl ?_
  refine jy_icmp_s hS rfl ?_
  refine jy_iload hS rfl rfl ?_
  refine jy_if_ne hS rfl (by omega) (fun h0 => ?_) (fun h0 => ?_)
  · refine jy_goto hS rfl ?_
    exact jy_join hS (k _ _ _ _ _ hL ⟨by (try dsimp only); omega, by (try dsimp only); omega⟩) rfl (jy_sub_s (jy_sub_s (jy_sub_s (jy_sub_s (jy_sub_s (jy_sub_n (jy_sub_n (jy_sub_n jy_sub_0))))))))
  · obtain ⟨hv3, hv4⟩ := hv2 h0
    have hv5 := Option.some.inj hv4
    rw [hv5]
    refine jy_aload_n hS rfl rfl ?_
    refine jy_iconst hS rfl ?_
    refine jy_lald hS rfl hL.2.2.2 (by decide) (by omega) ?_
    refine jy_iload hS rfl rfl ?_
    refine jy_i2l hS rfl rfl ?_
    refine jy_lcmp_s hS rfl hv3 ?_
    refine jy_if_0 hS rfl ?_
    refine jy_goto hS rfl ?_
    exact jy_join hS (k _ _ _ _ _ hL ⟨by (try dsimp only); omega, by (try dsimp only); omega⟩) rfl (jy_sub_s (jy_sub_s (jy_sub_s (jy_sub_s (jy_sub_s (jy_sub_n (jy_sub_n (jy_sub_n jy_sub_0))))))))
def cd_14 : List jx_row := [(1131, (.aload_n 1), 1132, 0, 0, 0), (1132, (.aload_n 0), 1133, 0, 0, 0), (1133, (.iload 4), 1135, 0, 0, 0), (1135, (.iconst 1), 1136, 0, 0, 0), (1136, .iadd, 1137, 0, 0, 0), (1137, .iaload, 1138, 0, 0, 0), (1138, (.aload_n 0), 1139, 0, 0, 0), (1139, (.iload 4), 1141, 0, 0, 0), (1141, (.iconst 2), 1142, 0, 0, 0), (1142, .iadd, 1143, 0, 0, 0), (1143, .iaload, 1144, 0, 0, 0), (1144, (.aload_n 3), 1145, 0, 0, 0), (1145, (.invokestatic 206), 1148, 348, 4, 2), (1148, (.istore 5), 1150, 0, 0, 0), (1150, (.aload_n 2), 1151, 0, 0, 0), (1151, (.aload_n 0), 1152, 0, 0, 0), (1152, (.iload 4), 1154, 0, 0, 0), (1154, (.iconst 1), 1155, 0, 0, 0), (1155, .iadd, 1156, 0, 0, 0), (1156, .iaload, 1157, 0, 0, 0), (1157, (.aload_n 0), 1158, 0, 0, 0), (1158, (.iload 4), 1160, 0, 0, 0), (1160, (.iconst 2), 1161, 0, 0, 0), (1161, .iadd, 1162, 0, 0, 0), (1162, .iaload, 1163, 0, 0, 0), (1163, (.invokevirtual 208), 1166, 251, 2, 0), (1166, (.istore 6), 1168, 0, 0, 0), (1168, (.aload_n 2), 1169, 0, 0, 0), (1169, (.invokevirtual 160), 1172, 201, 0, 0), (1172, (.iload 5), 1174, 0, 0, 0), (1174, (.if_icmp .eq 5), 1177, 1179, 0, 0), (1177, (.iconst 0), 1178, 0, 0, 0), (1178, .ireturn, 1179, 0, 0, 0), (1179, (.iload 5), 1181, 0, 0, 0), (1181, (.ifCond .ne 15), 1184, 1196, 0, 0), (1184, (.aload_n 3), 1185, 0, 0, 0), (1185, (.iconst 0), 1186, 0, 0, 0), (1186, .laload, 1187, 0, 0, 0), (1187, (.iload 6), 1189, 0, 0, 0), (1189, .i2l, 1190, 0, 0, 0), (1190, .lcmp, 1191, 0, 0, 0), (1191, (.ifCond .eq 5), 1194, 1196, 0, 0), (1194, (.iconst 0), 1195, 0, 0, 0), (1195, .ireturn, 1196, 0, 0, 0), (1196, (.goto 1966), 1199, 3162, 0, 0)]
theorem cs_14 : cd_14.all (fun q => decide (jx_at jx_c377 q.1 = some q.2)) = true := by decide +kernel
theorem oe_i_14 {s : YZ} {a1 : Int} {a2 : Int} : ∀ k w, oe_14 s a1 a2 = some (k, w) → (k, w) ∈ [((0 : Nat), (1 : Int)), ((2 : Nat), (2 : Int))] := by
  unfold oe_14
  exact nzw_i (by decide) (nzw_i (by decide) (fun _ _ h => by cases h))
set_option maxRecDepth 20000 in
theorem cl_14 {V : jx_V} (hV : V.1.stackTraces = false) {rt : Option FieldType} {J : jx_Jt} {KR : Option Value → Nat × Nat → jx_X → jx_I → jx_R → Prop} {KX : String → Nat × Nat → jx_X → jx_I → jx_R → Prop} (hS : jx_Snd V 205 rt [] false jx_c377 J KR KX) {X : jx_X} {R : jx_R} {I : jx_I} {a u : Nat} {s : YZ} {i : Int} {b : Nat × Nat} (h : LJ X R I a u s) (hi : 0 ≤ i ∧ i + 6 ≤ (V.2.2.2.2.2.2.1 : Nat)) (hn : V.2.2.2.2.2.2.1 ≤ 3072) (hb : 4 ≤ b.1 ∧ 24 ≤ b.2)
    (k : ∀ (X' : jx_X) (I' : jx_I) (R' : jx_R) (s' : YZ) (b' : Nat × Nat), LJ X' R' I' a u s' → b.1 ≤ b'.1 + 4 ∧ b.2 ≤ b'.2 + 24 → J 3162 [] [some (.ref V.2.2.2.2.2.1), some (.ref a), some (.ref (a + 147)), some (.ref u), some (jy i), none, none, none] b' X' I' R') : J 1131 [] [some (.ref V.2.2.2.2.2.1), some (.ref a), some (.ref (a + 147)), some (.ref u), some (jy i), none, none, none] b X I R := by
  have hS := jx_piece hS cs_14
  refine jy_aload_n hS rfl rfl ?_
  refine jy_aload_n hS rfl rfl ?_
  refine jy_iload hS rfl rfl ?_
  refine jy_iconst hS rfl ?_
  refine jy_iadd hS rfl ?_
  refine jy_sld hS rfl (by omega) (by omega) ?_
  refine jy_aload_n hS rfl rfl ?_
  refine jy_iload hS rfl rfl ?_
  refine jy_iconst hS rfl ?_
  refine jy_iadd hS rfl ?_
  refine jy_sld hS rfl (by omega) (by omega) ?_
  refine jy_aload_n hS rfl rfl ?_
  refine jy_callS hS rfl rfl rfl (Nat.le_of_ble_eq_true rfl) (wr_14 hV (LJ_a h) h.2.2.2 (kc_14 hV (a1 := (V.2.2.2.2.2.2.2 (i + 1).toNat).toInt) (a2 := (V.2.2.2.2.2.2.2 (i + 2).toNat).toInt) h.1 h.2.2.1 (jy_rng _) (jy_rng _)) oe_i_14) (by decide) ⟨by (try dsimp only); omega, by (try dsimp only); omega⟩ (Nat.le_of_ble_eq_true rfl) ?_ (fun _ _ _ _ q => q.elim)
  rintro rv X1 I1 R1 ⟨x1, x2, hq⟩
  obtain ⟨w, s1, rfl, hC1, hg1, hf1, hs1⟩ := comb_A oe_i_14 (by decide) h.2.2.1 hq
  have hw := SO_rng hs1
  have hM1 := MI_B h.2.1 h.2.2.1 x2 hf1
  change J 1148 [jy w] _ _ _ _ _
  refine jy_istore hS rfl (Nat.le_of_ble_eq_true rfl) (L' := [some (.ref V.2.2.2.2.2.1), some (.ref a), some (.ref (a + 147)), some (.ref u), some (jy i), some (jy w), none, none]) rfl ?_
  refine jy_aload_n hS rfl rfl ?_
  refine jy_aload_n hS rfl rfl ?_
  refine jy_iload hS rfl rfl ?_
  refine jy_iconst hS rfl ?_
  refine jy_iadd hS rfl ?_
  refine jy_sld hS rfl (by omega) (by omega) ?_
  refine jy_aload_n hS rfl rfl ?_
  refine jy_iload hS rfl rfl ?_
  refine jy_iconst hS rfl ?_
  refine jy_iadd hS rfl ?_
  refine jy_sld hS rfl (by omega) (by omega) ?_
  obtain ⟨Q1, QE1, hK2, m1, m2⟩ := mc_14 hV (a1 := (V.2.2.2.2.2.2.2 (i + 1).toNat).toInt) (a2 := (V.2.2.2.2.2.2.2 (i + 2).toNat).toInt) hM1 h.2.2.1 (jy_rng _) (jy_rng _)
  refine jy_callV hS rfl rfl rfl (Nat.le_of_ble_eq_true rfl) (Or.inl (MI_m hM1)) hK2 (by decide) ⟨Nat.zero_le _, Nat.zero_le _⟩ (Nat.le_of_ble_eq_true rfl) ?_ (fun _ _ _ _ q => (m2 _ _ _ q.2.2 : False).elim)
  rintro rv2 X2 I2 R2 ⟨e2, hq2⟩
  rw [e2]
  obtain ⟨eR, hf2, hM2, ht2, ⟨r, rfl⟩, hv2⟩ := comb_M ty_int hs1 (m1 _ _ _ hq2)
  rw [eR]
  have hL := LJ_2 hC1 x2 h.2.2.2 hg1 hf2 hM2
  change J 1166 [jy r] _ _ _ _ _
  refine jy_istore hS rfl (Nat.le_of_ble_eq_true rfl) (L' := [some (.ref V.2.2.2.2.2.1), some (.ref a), some (.ref (a + 147)), some (.ref u), some (jy i), some (jy w), some (jy r), none]) rfl ?_
  refine jy_aload_n hS rfl rfl ?_
  refine jy_callV hS rfl rfl rfl (Nat.le_of_ble_eq_true rfl) (Or.inl (MI_m hM2)) (cz_201 hV hM2.1 (QE := fun _ _ => False)) (by decide) ⟨Nat.zero_le _, Nat.zero_le _⟩ (Nat.le_of_ble_eq_true rfl) ?_ (fun _ _ _ _ q => q.2.2.2.elim)
  rintro rv3 X3 I3 R3 ⟨e3, e4, rfl, e5⟩
  rw [e3, e4, e5, ht2]
  change J 1172 [jy w] _ _ _ _ _
  refine jy_iload hS rfl rfl ?_
  refine jy_icmp_s hS rfl ?_
  refine jy_iload hS rfl rfl ?_
  refine jy_if_ne hS rfl (by omega) (fun h0 => ?_) (fun h0 => ?_)
  · refine jy_goto hS rfl ?_
    exact jy_join hS (k _ _ _ _ _ hL ⟨by (try dsimp only); omega, by (try dsimp only); omega⟩) rfl (jy_sub_s (jy_sub_s (jy_sub_s (jy_sub_s (jy_sub_s (jy_sub_n (jy_sub_n (jy_sub_n jy_sub_0))))))))
  · obtain ⟨hv3, hv4⟩ := hv2 h0
    have hv5 := Option.some.inj hv4
    rw [hv5]
    refine jy_aload_n hS rfl rfl ?_
    refine jy_iconst hS rfl ?_
    refine jy_lald hS rfl hL.2.2.2 (by decide) (by omega) ?_
    refine jy_iload hS rfl rfl ?_
    refine jy_i2l hS rfl rfl ?_
    refine jy_lcmp_s hS rfl hv3 ?_
    refine jy_if_0 hS rfl ?_
    refine jy_goto hS rfl ?_
    exact jy_join hS (k _ _ _ _ _ hL ⟨by (try dsimp only); omega, by (try dsimp only); omega⟩) rfl (jy_sub_s (jy_sub_s (jy_sub_s (jy_sub_s (jy_sub_s (jy_sub_n (jy_sub_n (jy_sub_n jy_sub_0))))))))
def cd_15 : List jx_row := [(1199, (.aload_n 1), 1200, 0, 0, 0), (1200, (.aload_n 0), 1201, 0, 0, 0), (1201, (.iload 4), 1203, 0, 0, 0), (1203, (.iconst 1), 1204, 0, 0, 0), (1204, .iadd, 1205, 0, 0, 0), (1205, .iaload, 1206, 0, 0, 0), (1206, (.aload_n 0), 1207, 0, 0, 0), (1207, (.iload 4), 1209, 0, 0, 0), (1209, (.iconst 2), 1210, 0, 0, 0), (1210, .iadd, 1211, 0, 0, 0), (1211, .iaload, 1212, 0, 0, 0), (1212, .i2l, 1213, 0, 0, 0), (1213, (.bipush 32), 1215, 0, 0, 0), (1215, .lshl, 1216, 0, 0, 0), (1216, (.aload_n 0), 1217, 0, 0, 0), (1217, (.iload 4), 1219, 0, 0, 0), (1219, (.iconst 3), 1220, 0, 0, 0), (1220, .iadd, 1221, 0, 0, 0), (1221, .iaload, 1222, 0, 0, 0), (1222, .i2l, 1223, 0, 0, 0), (1223, (.ldc2_w 190), 1226, 5, 0, 0), (1226, .land, 1227, 0, 0, 0), (1227, .lor, 1228, 0, 0, 0), (1228, (.aload_n 3), 1229, 0, 0, 0), (1229, (.invokestatic 209), 1232, 349, 4, 2), (1232, (.istore 5), 1234, 0, 0, 0), (1234, (.aload_n 2), 1235, 0, 0, 0), (1235, (.aload_n 0), 1236, 0, 0, 0), (1236, (.iload 4), 1238, 0, 0, 0), (1238, (.iconst 1), 1239, 0, 0, 0), (1239, .iadd, 1240, 0, 0, 0), (1240, .iaload, 1241, 0, 0, 0), (1241, (.aload_n 0), 1242, 0, 0, 0), (1242, (.iload 4), 1244, 0, 0, 0), (1244, (.iconst 2), 1245, 0, 0, 0), (1245, .iadd, 1246, 0, 0, 0), (1246, .iaload, 1247, 0, 0, 0), (1247, .i2l, 1248, 0, 0, 0), (1248, (.bipush 32), 1250, 0, 0, 0), (1250, .lshl, 1251, 0, 0, 0), (1251, (.aload_n 0), 1252, 0, 0, 0), (1252, (.iload 4), 1254, 0, 0, 0), (1254, (.iconst 3), 1255, 0, 0, 0), (1255, .iadd, 1256, 0, 0, 0), (1256, .iaload, 1257, 0, 0, 0), (1257, .i2l, 1258, 0, 0, 0), (1258, (.ldc2_w 190), 1261, 5, 0, 0), (1261, .land, 1262, 0, 0, 0), (1262, .lor, 1263, 0, 0, 0), (1263, (.invokevirtual 211), 1266, 256, 2, 0), (1266, (.istore 6), 1268, 0, 0, 0), (1268, (.aload_n 2), 1269, 0, 0, 0), (1269, (.invokevirtual 160), 1272, 201, 0, 0), (1272, (.iload 5), 1274, 0, 0, 0), (1274, (.if_icmp .eq 5), 1277, 1279, 0, 0), (1277, (.iconst 0), 1278, 0, 0, 0), (1278, .ireturn, 1279, 0, 0, 0), (1279, (.iload 5), 1281, 0, 0, 0), (1281, (.ifCond .ne 15), 1284, 1296, 0, 0), (1284, (.aload_n 3), 1285, 0, 0, 0), (1285, (.iconst 0), 1286, 0, 0, 0), (1286, .laload, 1287, 0, 0, 0), (1287, (.iload 6), 1289, 0, 0, 0), (1289, .i2l, 1290, 0, 0, 0), (1290, .lcmp, 1291, 0, 0, 0), (1291, (.ifCond .eq 5), 1294, 1296, 0, 0), (1294, (.iconst 0), 1295, 0, 0, 0), (1295, .ireturn, 1296, 0, 0, 0), (1296, (.goto 1866), 1299, 3162, 0, 0)]
theorem cs_15 : cd_15.all (fun q => decide (jx_at jx_c377 q.1 = some q.2)) = true := by decide +kernel
theorem oe_i_15 {s : YZ} {a1 : Int} {a2 : Int64} : ∀ k w, oe_15 s a1 a2 = some (k, w) → (k, w) ∈ [((2 : Nat), (1 : Int))] := by
  unfold oe_15
  exact nzw_i (by decide) (fun _ _ h => by cases h)
set_option maxRecDepth 20000 in
theorem cl_15 {V : jx_V} (hV : V.1.stackTraces = false) {rt : Option FieldType} {J : jx_Jt} {KR : Option Value → Nat × Nat → jx_X → jx_I → jx_R → Prop} {KX : String → Nat × Nat → jx_X → jx_I → jx_R → Prop} (hS : jx_Snd V 205 rt [] false jx_c377 J KR KX) {X : jx_X} {R : jx_R} {I : jx_I} {a u : Nat} {s : YZ} {i : Int} {b : Nat × Nat} (h : LJ X R I a u s) (hi : 0 ≤ i ∧ i + 6 ≤ (V.2.2.2.2.2.2.1 : Nat)) (hn : V.2.2.2.2.2.2.1 ≤ 3072) (hb : 4 ≤ b.1 ∧ 24 ≤ b.2)
    (k : ∀ (X' : jx_X) (I' : jx_I) (R' : jx_R) (s' : YZ) (b' : Nat × Nat), LJ X' R' I' a u s' → b.1 ≤ b'.1 + 4 ∧ b.2 ≤ b'.2 + 24 → J 3162 [] [some (.ref V.2.2.2.2.2.1), some (.ref a), some (.ref (a + 147)), some (.ref u), some (jy i), none, none, none] b' X' I' R') : J 1199 [] [some (.ref V.2.2.2.2.2.1), some (.ref a), some (.ref (a + 147)), some (.ref u), some (jy i), none, none, none] b X I R := by
  have hS := jx_piece hS cs_15
  refine jy_aload_n hS rfl rfl ?_
  refine jy_aload_n hS rfl rfl ?_
  refine jy_iload hS rfl rfl ?_
  refine jy_iconst hS rfl ?_
  refine jy_iadd hS rfl ?_
  refine jy_sld hS rfl (by omega) (by omega) ?_
  refine jy_aload_n hS rfl rfl ?_
  refine jy_iload hS rfl rfl ?_
  refine jy_iconst hS rfl ?_
  refine jy_iadd hS rfl ?_
  refine jy_sld hS rfl (by omega) (by omega) ?_
  refine jy_i2l hS rfl rfl ?_
  refine jy_bipush hS rfl (by decide) ?_
  refine jy_lshl hS rfl rfl ?_
  refine jy_aload_n hS rfl rfl ?_
  refine jy_iload hS rfl rfl ?_
  refine jy_iconst hS rfl ?_
  refine jy_iadd hS rfl ?_
  refine jy_sld hS rfl (by omega) (by omega) ?_
  refine jy_i2l hS rfl rfl ?_
  refine jy_ldc2 hS rfl (n := 4294967295) (by decide) ?_
  refine jy_land hS rfl rfl ?_
  refine jy_lor hS rfl rfl ?_
  refine jy_aload_n hS rfl rfl ?_
  refine jy_callS hS rfl rfl rfl (Nat.le_of_ble_eq_true rfl) (wr_15 hV (LJ_a h) h.2.2.2 (kc_15 hV (a1 := (V.2.2.2.2.2.2.2 (i + 1).toNat).toInt) (a2 := (((Int32.ofInt (V.2.2.2.2.2.2.2 (i + 2).toNat).toInt).toInt64 <<< ((Int32.ofInt 32).toInt64 &&& 63)) ||| ((Int32.ofInt (V.2.2.2.2.2.2.2 (i + 3).toNat).toInt).toInt64 &&& 4294967295))) h.1 h.2.2.1 (jy_rng _)) oe_i_15) (by decide) ⟨by (try dsimp only); omega, by (try dsimp only); omega⟩ (Nat.le_of_ble_eq_true rfl) ?_ (fun _ _ _ _ q => q.elim)
  rintro rv X1 I1 R1 ⟨x1, x2, hq⟩
  obtain ⟨w, s1, rfl, hC1, hg1, hf1, hs1⟩ := comb_A oe_i_15 (by decide) h.2.2.1 hq
  have hw := SO_rng hs1
  have hM1 := MI_B h.2.1 h.2.2.1 x2 hf1
  change J 1232 [jy w] _ _ _ _ _
  refine jy_istore hS rfl (Nat.le_of_ble_eq_true rfl) (L' := [some (.ref V.2.2.2.2.2.1), some (.ref a), some (.ref (a + 147)), some (.ref u), some (jy i), some (jy w), none, none]) rfl ?_
  refine jy_aload_n hS rfl rfl ?_
  refine jy_aload_n hS rfl rfl ?_
  refine jy_iload hS rfl rfl ?_
  refine jy_iconst hS rfl ?_
  refine jy_iadd hS rfl ?_
  refine jy_sld hS rfl (by omega) (by omega) ?_
  refine jy_aload_n hS rfl rfl ?_
  refine jy_iload hS rfl rfl ?_
  refine jy_iconst hS rfl ?_
  refine jy_iadd hS rfl ?_
  refine jy_sld hS rfl (by omega) (by omega) ?_
  refine jy_i2l hS rfl rfl ?_
  refine jy_bipush hS rfl (by decide) ?_
  refine jy_lshl hS rfl rfl ?_
  refine jy_aload_n hS rfl rfl ?_
  refine jy_iload hS rfl rfl ?_
  refine jy_iconst hS rfl ?_
  refine jy_iadd hS rfl ?_
  refine jy_sld hS rfl (by omega) (by omega) ?_
  refine jy_i2l hS rfl rfl ?_
  refine jy_ldc2 hS rfl (n := 4294967295) (by decide) ?_
  refine jy_land hS rfl rfl ?_
  refine jy_lor hS rfl rfl ?_
  obtain ⟨Q1, QE1, hK2, m1, m2⟩ := mc_15 hV (a1 := (V.2.2.2.2.2.2.2 (i + 1).toNat).toInt) (a2 := (((Int32.ofInt (V.2.2.2.2.2.2.2 (i + 2).toNat).toInt).toInt64 <<< ((Int32.ofInt 32).toInt64 &&& 63)) ||| ((Int32.ofInt (V.2.2.2.2.2.2.2 (i + 3).toNat).toInt).toInt64 &&& 4294967295))) hM1 h.2.2.1 (jy_rng _)
  refine jy_callV hS rfl rfl rfl (Nat.le_of_ble_eq_true rfl) (Or.inl (MI_m hM1)) hK2 (by decide) ⟨Nat.zero_le _, Nat.zero_le _⟩ (Nat.le_of_ble_eq_true rfl) ?_ (fun _ _ _ _ q => (m2 _ _ _ q.2.2 : False).elim)
  rintro rv2 X2 I2 R2 ⟨e2, hq2⟩
  rw [e2]
  obtain ⟨eR, hf2, hM2, ht2, ⟨r, rfl⟩, hv2⟩ := comb_M ty_int hs1 (m1 _ _ _ hq2)
  rw [eR]
  have hL := LJ_2 hC1 x2 h.2.2.2 hg1 hf2 hM2
  change J 1266 [jy r] _ _ _ _ _
  refine jy_istore hS rfl (Nat.le_of_ble_eq_true rfl) (L' := [some (.ref V.2.2.2.2.2.1), some (.ref a), some (.ref (a + 147)), some (.ref u), some (jy i), some (jy w), some (jy r), none]) rfl ?_
  refine jy_aload_n hS rfl rfl ?_
  refine jy_callV hS rfl rfl rfl (Nat.le_of_ble_eq_true rfl) (Or.inl (MI_m hM2)) (cz_201 hV hM2.1 (QE := fun _ _ => False)) (by decide) ⟨Nat.zero_le _, Nat.zero_le _⟩ (Nat.le_of_ble_eq_true rfl) ?_ (fun _ _ _ _ q => q.2.2.2.elim)
  rintro rv3 X3 I3 R3 ⟨e3, e4, rfl, e5⟩
  rw [e3, e4, e5, ht2]
  change J 1272 [jy w] _ _ _ _ _
  refine jy_iload hS rfl rfl ?_
  refine jy_icmp_s hS rfl ?_
  refine jy_iload hS rfl rfl ?_
  refine jy_if_ne hS rfl (by omega) (fun h0 => ?_) (fun h0 => ?_)
  · refine jy_goto hS rfl ?_
    exact jy_join hS (k _ _ _ _ _ hL ⟨by (try dsimp only); omega, by (try dsimp only); omega⟩) rfl (jy_sub_s (jy_sub_s (jy_sub_s (jy_sub_s (jy_sub_s (jy_sub_n (jy_sub_n (jy_sub_n jy_sub_0))))))))
  · obtain ⟨hv3, hv4⟩ := hv2 h0
    have hv5 := Option.some.inj hv4
    rw [hv5]
    refine jy_aload_n hS rfl rfl ?_
    refine jy_iconst hS rfl ?_
    refine jy_lald hS rfl hL.2.2.2 (by decide) (by omega) ?_
    refine jy_iload hS rfl rfl ?_
    refine jy_i2l hS rfl rfl ?_
    refine jy_lcmp_s hS rfl hv3 ?_
    refine jy_if_0 hS rfl ?_
    refine jy_goto hS rfl ?_
    exact jy_join hS (k _ _ _ _ _ hL ⟨by (try dsimp only); omega, by (try dsimp only); omega⟩) rfl (jy_sub_s (jy_sub_s (jy_sub_s (jy_sub_s (jy_sub_s (jy_sub_n (jy_sub_n (jy_sub_n jy_sub_0))))))))
def cd_16 : List jx_row := [(1299, (.aload_n 1), 1300, 0, 0, 0), (1300, (.aload_n 0), 1301, 0, 0, 0), (1301, (.iload 4), 1303, 0, 0, 0), (1303, (.iconst 1), 1304, 0, 0, 0), (1304, .iadd, 1305, 0, 0, 0), (1305, .iaload, 1306, 0, 0, 0), (1306, (.invokevirtual 212), 1309, 153, 1, 0), (1309, (.aload_n 2), 1310, 0, 0, 0), (1310, (.aload_n 0), 1311, 0, 0, 0), (1311, (.iload 4), 1313, 0, 0, 0), (1313, (.iconst 1), 1314, 0, 0, 0), (1314, .iadd, 1315, 0, 0, 0), (1315, .iaload, 1316, 0, 0, 0), (1316, (.invokevirtual 215), 1319, 257, 1, 0), (1319, (.if_icmp .eq 1843), 1322, 3162, 0, 0), (1322, (.iconst 0), 1323, 0, 0, 0), (1323, .ireturn, 1324, 0, 0, 0)]
theorem cs_16 : cd_16.all (fun q => decide (jx_at jx_c377 q.1 = some q.2)) = true := by decide +kernel
set_option maxRecDepth 20000 in
theorem cl_16 {V : jx_V} (hV : V.1.stackTraces = false) {rt : Option FieldType} {J : jx_Jt} {KR : Option Value → Nat × Nat → jx_X → jx_I → jx_R → Prop} {KX : String → Nat × Nat → jx_X → jx_I → jx_R → Prop} (hS : jx_Snd V 205 rt [] false jx_c377 J KR KX) {X : jx_X} {R : jx_R} {I : jx_I} {a u : Nat} {s : YZ} {i : Int} {b : Nat × Nat} (h : LJ X R I a u s) (hi : 0 ≤ i ∧ i + 6 ≤ (V.2.2.2.2.2.2.1 : Nat)) (hn : V.2.2.2.2.2.2.1 ≤ 3072) (hb : 4 ≤ b.1 ∧ 24 ≤ b.2)
    (k : ∀ (X' : jx_X) (I' : jx_I) (R' : jx_R) (s' : YZ) (b' : Nat × Nat), LJ X' R' I' a u s' → b.1 ≤ b'.1 + 4 ∧ b.2 ≤ b'.2 + 24 → J 3162 [] [some (.ref V.2.2.2.2.2.1), some (.ref a), some (.ref (a + 147)), some (.ref u), some (jy i), none, none, none] b' X' I' R') : J 1299 [] [some (.ref V.2.2.2.2.2.1), some (.ref a), some (.ref (a + 147)), some (.ref u), some (jy i), none, none, none] b X I R := by
  have hS := jx_piece hS cs_16
  refine jy_aload_n hS rfl rfl ?_
  refine jy_aload_n hS rfl rfl ?_
  refine jy_iload hS rfl rfl ?_
  refine jy_iconst hS rfl ?_
  refine jy_iadd hS rfl ?_
  refine jy_sld hS rfl (by omega) (by omega) ?_
  obtain ⟨Q0, QE0, hK, k1, k2⟩ := kc_16 hV (a1 := (V.2.2.2.2.2.2.2 (i + 1).toNat).toInt) h.1 h.2.2.1 (jy_rng _)
  refine jy_callV hS rfl rfl rfl (Nat.le_of_ble_eq_true rfl) (Or.inl (LJ_a h)) hK (by decide) ⟨Nat.zero_le _, Nat.zero_le _⟩ (Nat.le_of_ble_eq_true rfl) ?_ (fun _ _ _ _ q => (k2 _ _ _ q.2.2 : False).elim)
  rintro rv X1 I1 R1 ⟨e1, hq⟩
  rw [e1]
  obtain ⟨rfl, hC1, hg1, hf1⟩ := KQ_n (k1 _ _ _ hq)
  have hM1 := MI_B h.2.1 h.2.2.1 (X' := X) rfl hf1
  change J 1309 [jy (ov_16 s ((V.2.2.2.2.2.2.2 (i + 1).toNat).toInt))] _ _ _ _ _
  refine jy_aload_n hS rfl rfl ?_
  refine jy_aload_n hS rfl rfl ?_
  refine jy_iload hS rfl rfl ?_
  refine jy_iconst hS rfl ?_
  refine jy_iadd hS rfl ?_
  refine jy_sld hS rfl (by omega) (by omega) ?_
  obtain ⟨Q1, QE1, hK2, m1, m2⟩ := mc_16 hV (a1 := (V.2.2.2.2.2.2.2 (i + 1).toNat).toInt) hM1 h.2.2.1 (jy_rng _)
  refine jy_callV hS rfl rfl rfl (Nat.le_of_ble_eq_true rfl) (Or.inl (MI_m hM1)) hK2 (by decide) ⟨Nat.zero_le _, Nat.zero_le _⟩ (Nat.le_of_ble_eq_true rfl) ?_ (fun _ _ _ _ q => (m2 _ _ _ q.2.2 : False).elim)
  rintro rv2 X2 I2 R2 ⟨e2, hq2⟩
  rw [e2]
  obtain ⟨eR, hf2, hM2, rfl⟩ := MQ_n (m1 _ _ _ hq2)
  rw [eR]
  have hL := LJ_2 hC1 (X' := X) rfl h.2.2.2 hg1 hf2 hM2
  change J 1319 [jy (ov_16 s ((V.2.2.2.2.2.2.2 (i + 1).toNat).toInt)), jy (ov_16 s ((V.2.2.2.2.2.2.2 (i + 1).toNat).toInt))] _ _ _ _ _
  refine jy_icmp_s hS rfl ?_
  exact jy_join hS (k _ _ _ _ _ hL ⟨by (try dsimp only); omega, by (try dsimp only); omega⟩) rfl (jy_sub_s (jy_sub_s (jy_sub_s (jy_sub_s (jy_sub_s (jy_sub_n (jy_sub_n (jy_sub_n jy_sub_0))))))))
def cd_17 : List jx_row := [(1324, (.aload_n 1), 1325, 0, 0, 0), (1325, (.aload_n 0), 1326, 0, 0, 0), (1326, (.iload 4), 1328, 0, 0, 0), (1328, (.iconst 1), 1329, 0, 0, 0), (1329, .iadd, 1330, 0, 0, 0), (1330, .iaload, 1331, 0, 0, 0), (1331, (.aload_n 3), 1332, 0, 0, 0), (1332, (.invokestatic 216), 1335, 350, 3, 2), (1335, (.istore 5), 1337, 0, 0, 0), (1337, (.aload_n 2), 1338, 0, 0, 0), (1338, (.aload_n 0), 1339, 0, 0, 0), (1339, (.iload 4), 1341, 0, 0, 0), (1341, (.iconst 1), 1342, 0, 0, 0), (1342, .iadd, 1343, 0, 0, 0), (1343, .iaload, 1344, 0, 0, 0), (1344, (.invokevirtual 218), 1347, 261, 1, 0), (1347, (.istore 6), 1349, 0, 0, 0), (1349, (.aload_n 2), 1350, 0, 0, 0), (1350, (.invokevirtual 160), 1353, 201, 0, 0), (1353, (.iload 5), 1355, 0, 0, 0), (1355, (.if_icmp .eq 5), 1358, 1360, 0, 0), (1358, (.iconst 0), 1359, 0, 0, 0), (1359, .ireturn, 1360, 0, 0, 0), (1360, (.iload 5), 1362, 0, 0, 0), (1362, (.ifCond .ne 15), 1365, 1377, 0, 0), (1365, (.aload_n 3), 1366, 0, 0, 0), (1366, (.iconst 0), 1367, 0, 0, 0), (1367, .laload, 1368, 0, 0, 0), (1368, (.iload 6), 1370, 0, 0, 0), (1370, .i2l, 1371, 0, 0, 0), (1371, .lcmp, 1372, 0, 0, 0), (1372, (.ifCond .eq 5), 1375, 1377, 0, 0), (1375, (.iconst 0), 1376, 0, 0, 0), (1376, .ireturn, 1377, 0, 0, 0), (1377, (.goto 1785), 1380, 3162, 0, 0)]
theorem cs_17 : cd_17.all (fun q => decide (jx_at jx_c377 q.1 = some q.2)) = true := by decide +kernel
theorem oe_i_17 {s : YZ} {a1 : Int} : ∀ k w, oe_17 s a1 = some (k, w) → (k, w) ∈ [((2 : Nat), (1 : Int)), ((3 : Nat), (2 : Int))] := by
  unfold oe_17
  exact nzw_i (by decide) (nzw_i (by decide) (fun _ _ h => by cases h))
set_option maxRecDepth 20000 in
theorem cl_17 {V : jx_V} (hV : V.1.stackTraces = false) {rt : Option FieldType} {J : jx_Jt} {KR : Option Value → Nat × Nat → jx_X → jx_I → jx_R → Prop} {KX : String → Nat × Nat → jx_X → jx_I → jx_R → Prop} (hS : jx_Snd V 205 rt [] false jx_c377 J KR KX) {X : jx_X} {R : jx_R} {I : jx_I} {a u : Nat} {s : YZ} {i : Int} {b : Nat × Nat} (h : LJ X R I a u s) (hi : 0 ≤ i ∧ i + 6 ≤ (V.2.2.2.2.2.2.1 : Nat)) (hn : V.2.2.2.2.2.2.1 ≤ 3072) (hb : 4 ≤ b.1 ∧ 24 ≤ b.2)
    (k : ∀ (X' : jx_X) (I' : jx_I) (R' : jx_R) (s' : YZ) (b' : Nat × Nat), LJ X' R' I' a u s' → b.1 ≤ b'.1 + 4 ∧ b.2 ≤ b'.2 + 24 → J 3162 [] [some (.ref V.2.2.2.2.2.1), some (.ref a), some (.ref (a + 147)), some (.ref u), some (jy i), none, none, none] b' X' I' R') : J 1324 [] [some (.ref V.2.2.2.2.2.1), some (.ref a), some (.ref (a + 147)), some (.ref u), some (jy i), none, none, none] b X I R := by
  have hS := jx_piece hS cs_17
  refine jy_aload_n hS rfl rfl ?_
  refine jy_aload_n hS rfl rfl ?_
  refine jy_iload hS rfl rfl ?_
  refine jy_iconst hS rfl ?_
  refine jy_iadd hS rfl ?_
  refine jy_sld hS rfl (by omega) (by omega) ?_
  refine jy_aload_n hS rfl rfl ?_
  refine jy_callS hS rfl rfl rfl (Nat.le_of_ble_eq_true rfl) (wr_17 hV (LJ_a h) h.2.2.2 (kc_17 hV (a1 := (V.2.2.2.2.2.2.2 (i + 1).toNat).toInt) h.1 h.2.2.1 (jy_rng _)) oe_i_17) (by decide) ⟨by (try dsimp only); omega, by (try dsimp only); omega⟩ (Nat.le_of_ble_eq_true rfl) ?_ (fun _ _ _ _ q => q.elim)
  rintro rv X1 I1 R1 ⟨x1, x2, hq⟩
  obtain ⟨w, s1, rfl, hC1, hg1, hf1, hs1⟩ := comb_A oe_i_17 (by decide) h.2.2.1 hq
  have hw := SO_rng hs1
  have hM1 := MI_B h.2.1 h.2.2.1 x2 hf1
  change J 1335 [jy w] _ _ _ _ _
  refine jy_istore hS rfl (Nat.le_of_ble_eq_true rfl) (L' := [some (.ref V.2.2.2.2.2.1), some (.ref a), some (.ref (a + 147)), some (.ref u), some (jy i), some (jy w), none, none]) rfl ?_
  refine jy_aload_n hS rfl rfl ?_
  refine jy_aload_n hS rfl rfl ?_
  refine jy_iload hS rfl rfl ?_
  refine jy_iconst hS rfl ?_
  refine jy_iadd hS rfl ?_
  refine jy_sld hS rfl (by omega) (by omega) ?_
  obtain ⟨Q1, QE1, hK2, m1, m2⟩ := mc_17 hV (a1 := (V.2.2.2.2.2.2.2 (i + 1).toNat).toInt) hM1 h.2.2.1 (jy_rng _)
  refine jy_callV hS rfl rfl rfl (Nat.le_of_ble_eq_true rfl) (Or.inl (MI_m hM1)) hK2 (by decide) ⟨Nat.zero_le _, Nat.zero_le _⟩ (Nat.le_of_ble_eq_true rfl) ?_ (fun _ _ _ _ q => (m2 _ _ _ q.2.2 : False).elim)
  rintro rv2 X2 I2 R2 ⟨e2, hq2⟩
  rw [e2]
  obtain ⟨eR, hf2, hM2, ht2, ⟨r, rfl⟩, hv2⟩ := comb_M ty_int hs1 (m1 _ _ _ hq2)
  rw [eR]
  have hL := LJ_2 hC1 x2 h.2.2.2 hg1 hf2 hM2
  change J 1347 [jy r] _ _ _ _ _
  refine jy_istore hS rfl (Nat.le_of_ble_eq_true rfl) (L' := [some (.ref V.2.2.2.2.2.1), some (.ref a), some (.ref (a + 147)), some (.ref u), some (jy i), some (jy w), some (jy r), none]) rfl ?_
  refine jy_aload_n hS rfl rfl ?_
  refine jy_callV hS rfl rfl rfl (Nat.le_of_ble_eq_true rfl) (Or.inl (MI_m hM2)) (cz_201 hV hM2.1 (QE := fun _ _ => False)) (by decide) ⟨Nat.zero_le _, Nat.zero_le _⟩ (Nat.le_of_ble_eq_true rfl) ?_ (fun _ _ _ _ q => q.2.2.2.elim)
  rintro rv3 X3 I3 R3 ⟨e3, e4, rfl, e5⟩
  rw [e3, e4, e5, ht2]
  change J 1353 [jy w] _ _ _ _ _
  refine jy_iload hS rfl rfl ?_
  refine jy_icmp_s hS rfl ?_
  refine jy_iload hS rfl rfl ?_
  refine jy_if_ne hS rfl (by omega) (fun h0 => ?_) (fun h0 => ?_)
  · refine jy_goto hS rfl ?_
    exact jy_join hS (k _ _ _ _ _ hL ⟨by (try dsimp only); omega, by (try dsimp only); omega⟩) rfl (jy_sub_s (jy_sub_s (jy_sub_s (jy_sub_s (jy_sub_s (jy_sub_n (jy_sub_n (jy_sub_n jy_sub_0))))))))
  · obtain ⟨hv3, hv4⟩ := hv2 h0
    have hv5 := Option.some.inj hv4
    rw [hv5]
    refine jy_aload_n hS rfl rfl ?_
    refine jy_iconst hS rfl ?_
    refine jy_lald hS rfl hL.2.2.2 (by decide) (by omega) ?_
    refine jy_iload hS rfl rfl ?_
    refine jy_i2l hS rfl rfl ?_
    refine jy_lcmp_s hS rfl hv3 ?_
    refine jy_if_0 hS rfl ?_
    refine jy_goto hS rfl ?_
    exact jy_join hS (k _ _ _ _ _ hL ⟨by (try dsimp only); omega, by (try dsimp only); omega⟩) rfl (jy_sub_s (jy_sub_s (jy_sub_s (jy_sub_s (jy_sub_s (jy_sub_n (jy_sub_n (jy_sub_n jy_sub_0))))))))
def cd_18 : List jx_row := [(1380, (.aload_n 1), 1381, 0, 0, 0), (1381, (.aload_n 0), 1382, 0, 0, 0), (1382, (.iload 4), 1384, 0, 0, 0), (1384, (.iconst 1), 1385, 0, 0, 0), (1385, .iadd, 1386, 0, 0, 0), (1386, .iaload, 1387, 0, 0, 0), (1387, (.aload_n 3), 1388, 0, 0, 0), (1388, (.invokestatic 219), 1391, 351, 3, 2), (1391, (.istore 5), 1393, 0, 0, 0), (1393, (.aload_n 2), 1394, 0, 0, 0), (1394, (.aload_n 0), 1395, 0, 0, 0), (1395, (.iload 4), 1397, 0, 0, 0), (1397, (.iconst 1), 1398, 0, 0, 0), (1398, .iadd, 1399, 0, 0, 0), (1399, .iaload, 1400, 0, 0, 0), (1400, (.invokevirtual 221), 1403, 263, 1, 0), (1403, (.istore 6), 1405, 0, 0, 0), (1405, (.aload_n 2), 1406, 0, 0, 0), (1406, (.invokevirtual 160), 1409, 201, 0, 0), (1409, (.iload 5), 1411, 0, 0, 0), (1411, (.if_icmp .eq 5), 1414, 1416, 0, 0), (1414, (.iconst 0), 1415, 0, 0, 0), (1415, .ireturn, 1416, 0, 0, 0), (1416, (.iload 5), 1418, 0, 0, 0), (1418, (.ifCond .ne 15), 1421, 1433, 0, 0), (1421, (.aload_n 3), 1422, 0, 0, 0), (1422, (.iconst 0), 1423, 0, 0, 0), (1423, .laload, 1424, 0, 0, 0), (1424, (.iload 6), 1426, 0, 0, 0), (1426, .i2l, 1427, 0, 0, 0), (1427, .lcmp, 1428, 0, 0, 0), (1428, (.ifCond .eq 5), 1431, 1433, 0, 0), (1431, (.iconst 0), 1432, 0, 0, 0), (1432, .ireturn, 1433, 0, 0, 0), (1433, (.goto 1729), 1436, 3162, 0, 0)]
theorem cs_18 : cd_18.all (fun q => decide (jx_at jx_c377 q.1 = some q.2)) = true := by decide +kernel
theorem oe_i_18 {s : YZ} {a1 : Int} : ∀ k w, oe_18 s a1 = some (k, w) → (k, w) ∈ [((3 : Nat), (1 : Int))] := by
  unfold oe_18
  exact nzw_i (by decide) (fun _ _ h => by cases h)
set_option maxRecDepth 20000 in
theorem cl_18 {V : jx_V} (hV : V.1.stackTraces = false) {rt : Option FieldType} {J : jx_Jt} {KR : Option Value → Nat × Nat → jx_X → jx_I → jx_R → Prop} {KX : String → Nat × Nat → jx_X → jx_I → jx_R → Prop} (hS : jx_Snd V 205 rt [] false jx_c377 J KR KX) {X : jx_X} {R : jx_R} {I : jx_I} {a u : Nat} {s : YZ} {i : Int} {b : Nat × Nat} (h : LJ X R I a u s) (hi : 0 ≤ i ∧ i + 6 ≤ (V.2.2.2.2.2.2.1 : Nat)) (hn : V.2.2.2.2.2.2.1 ≤ 3072) (hb : 4 ≤ b.1 ∧ 24 ≤ b.2)
    (k : ∀ (X' : jx_X) (I' : jx_I) (R' : jx_R) (s' : YZ) (b' : Nat × Nat), LJ X' R' I' a u s' → b.1 ≤ b'.1 + 4 ∧ b.2 ≤ b'.2 + 24 → J 3162 [] [some (.ref V.2.2.2.2.2.1), some (.ref a), some (.ref (a + 147)), some (.ref u), some (jy i), none, none, none] b' X' I' R') : J 1380 [] [some (.ref V.2.2.2.2.2.1), some (.ref a), some (.ref (a + 147)), some (.ref u), some (jy i), none, none, none] b X I R := by
  have hS := jx_piece hS cs_18
  refine jy_aload_n hS rfl rfl ?_
  refine jy_aload_n hS rfl rfl ?_
  refine jy_iload hS rfl rfl ?_
  refine jy_iconst hS rfl ?_
  refine jy_iadd hS rfl ?_
  refine jy_sld hS rfl (by omega) (by omega) ?_
  refine jy_aload_n hS rfl rfl ?_
  refine jy_callS hS rfl rfl rfl (Nat.le_of_ble_eq_true rfl) (wr_18 hV (LJ_a h) h.2.2.2 (kc_18 hV (a1 := (V.2.2.2.2.2.2.2 (i + 1).toNat).toInt) h.1 h.2.2.1 (jy_rng _)) oe_i_18) (by decide) ⟨by (try dsimp only); omega, by (try dsimp only); omega⟩ (Nat.le_of_ble_eq_true rfl) ?_ (fun _ _ _ _ q => q.elim)
  rintro rv X1 I1 R1 ⟨x1, x2, hq⟩
  obtain ⟨w, s1, rfl, hC1, hg1, hf1, hs1⟩ := comb_A oe_i_18 (by decide) h.2.2.1 hq
  have hw := SO_rng hs1
  have hM1 := MI_B h.2.1 h.2.2.1 x2 hf1
  change J 1391 [jy w] _ _ _ _ _
  refine jy_istore hS rfl (Nat.le_of_ble_eq_true rfl) (L' := [some (.ref V.2.2.2.2.2.1), some (.ref a), some (.ref (a + 147)), some (.ref u), some (jy i), some (jy w), none, none]) rfl ?_
  refine jy_aload_n hS rfl rfl ?_
  refine jy_aload_n hS rfl rfl ?_
  refine jy_iload hS rfl rfl ?_
  refine jy_iconst hS rfl ?_
  refine jy_iadd hS rfl ?_
  refine jy_sld hS rfl (by omega) (by omega) ?_
  obtain ⟨Q1, QE1, hK2, m1, m2⟩ := mc_18 hV (a1 := (V.2.2.2.2.2.2.2 (i + 1).toNat).toInt) hM1 h.2.2.1 (jy_rng _)
  refine jy_callV hS rfl rfl rfl (Nat.le_of_ble_eq_true rfl) (Or.inl (MI_m hM1)) hK2 (by decide) ⟨Nat.zero_le _, Nat.zero_le _⟩ (Nat.le_of_ble_eq_true rfl) ?_ (fun _ _ _ _ q => (m2 _ _ _ q.2.2 : False).elim)
  rintro rv2 X2 I2 R2 ⟨e2, hq2⟩
  rw [e2]
  obtain ⟨eR, hf2, hM2, ht2, ⟨r, rfl⟩, hv2⟩ := comb_M ty_int hs1 (m1 _ _ _ hq2)
  rw [eR]
  have hL := LJ_2 hC1 x2 h.2.2.2 hg1 hf2 hM2
  change J 1403 [jy r] _ _ _ _ _
  refine jy_istore hS rfl (Nat.le_of_ble_eq_true rfl) (L' := [some (.ref V.2.2.2.2.2.1), some (.ref a), some (.ref (a + 147)), some (.ref u), some (jy i), some (jy w), some (jy r), none]) rfl ?_
  refine jy_aload_n hS rfl rfl ?_
  refine jy_callV hS rfl rfl rfl (Nat.le_of_ble_eq_true rfl) (Or.inl (MI_m hM2)) (cz_201 hV hM2.1 (QE := fun _ _ => False)) (by decide) ⟨Nat.zero_le _, Nat.zero_le _⟩ (Nat.le_of_ble_eq_true rfl) ?_ (fun _ _ _ _ q => q.2.2.2.elim)
  rintro rv3 X3 I3 R3 ⟨e3, e4, rfl, e5⟩
  rw [e3, e4, e5, ht2]
  change J 1409 [jy w] _ _ _ _ _
  refine jy_iload hS rfl rfl ?_
  refine jy_icmp_s hS rfl ?_
  refine jy_iload hS rfl rfl ?_
  refine jy_if_ne hS rfl (by omega) (fun h0 => ?_) (fun h0 => ?_)
  · refine jy_goto hS rfl ?_
    exact jy_join hS (k _ _ _ _ _ hL ⟨by (try dsimp only); omega, by (try dsimp only); omega⟩) rfl (jy_sub_s (jy_sub_s (jy_sub_s (jy_sub_s (jy_sub_s (jy_sub_n (jy_sub_n (jy_sub_n jy_sub_0))))))))
  · obtain ⟨hv3, hv4⟩ := hv2 h0
    have hv5 := Option.some.inj hv4
    rw [hv5]
    refine jy_aload_n hS rfl rfl ?_
    refine jy_iconst hS rfl ?_
    refine jy_lald hS rfl hL.2.2.2 (by decide) (by omega) ?_
    refine jy_iload hS rfl rfl ?_
    refine jy_i2l hS rfl rfl ?_
    refine jy_lcmp_s hS rfl hv3 ?_
    refine jy_if_0 hS rfl ?_
    refine jy_goto hS rfl ?_
    exact jy_join hS (k _ _ _ _ _ hL ⟨by (try dsimp only); omega, by (try dsimp only); omega⟩) rfl (jy_sub_s (jy_sub_s (jy_sub_s (jy_sub_s (jy_sub_s (jy_sub_n (jy_sub_n (jy_sub_n jy_sub_0))))))))
def cd_19 : List jx_row := [(1436, (.aload_n 1), 1437, 0, 0, 0), (1437, (.aload_n 0), 1438, 0, 0, 0), (1438, (.iload 4), 1440, 0, 0, 0), (1440, (.iconst 1), 1441, 0, 0, 0), (1441, .iadd, 1442, 0, 0, 0), (1442, .iaload, 1443, 0, 0, 0), (1443, (.aload_n 3), 1444, 0, 0, 0), (1444, (.invokestatic 222), 1447, 352, 3, 2), (1447, (.istore 5), 1449, 0, 0, 0), (1449, (.aload_n 2), 1450, 0, 0, 0), (1450, (.aload_n 0), 1451, 0, 0, 0), (1451, (.iload 4), 1453, 0, 0, 0), (1453, (.iconst 1), 1454, 0, 0, 0), (1454, .iadd, 1455, 0, 0, 0), (1455, .iaload, 1456, 0, 0, 0), (1456, (.invokevirtual 224), 1459, 264, 1, 0), (1459, (.istore 6), 1461, 0, 0, 0), (1461, (.aload_n 2), 1462, 0, 0, 0), (1462, (.invokevirtual 160), 1465, 201, 0, 0), (1465, (.iload 5), 1467, 0, 0, 0), (1467, (.if_icmp .eq 5), 1470, 1472, 0, 0), (1470, (.iconst 0), 1471, 0, 0, 0), (1471, .ireturn, 1472, 0, 0, 0), (1472, (.iload 5), 1474, 0, 0, 0), (1474, (.ifCond .ne 15), 1477, 1489, 0, 0), (1477, (.aload_n 3), 1478, 0, 0, 0), (1478, (.iconst 0), 1479, 0, 0, 0), (1479, .laload, 1480, 0, 0, 0), (1480, (.iload 6), 1482, 0, 0, 0), (1482, .i2l, 1483, 0, 0, 0), (1483, .lcmp, 1484, 0, 0, 0), (1484, (.ifCond .eq 5), 1487, 1489, 0, 0), (1487, (.iconst 0), 1488, 0, 0, 0), (1488, .ireturn, 1489, 0, 0, 0), (1489, (.goto 1673), 1492, 3162, 0, 0)]
theorem cs_19 : cd_19.all (fun q => decide (jx_at jx_c377 q.1 = some q.2)) = true := by decide +kernel
theorem oe_i_19 {s : YZ} {a1 : Int} : ∀ k w, oe_19 s a1 = some (k, w) → (k, w) ∈ [((3 : Nat), (1 : Int))] := by
  unfold oe_19
  exact nzw_i (by decide) (fun _ _ h => by cases h)
set_option maxRecDepth 20000 in
theorem cl_19 {V : jx_V} (hV : V.1.stackTraces = false) {rt : Option FieldType} {J : jx_Jt} {KR : Option Value → Nat × Nat → jx_X → jx_I → jx_R → Prop} {KX : String → Nat × Nat → jx_X → jx_I → jx_R → Prop} (hS : jx_Snd V 205 rt [] false jx_c377 J KR KX) {X : jx_X} {R : jx_R} {I : jx_I} {a u : Nat} {s : YZ} {i : Int} {b : Nat × Nat} (h : LJ X R I a u s) (hi : 0 ≤ i ∧ i + 6 ≤ (V.2.2.2.2.2.2.1 : Nat)) (hn : V.2.2.2.2.2.2.1 ≤ 3072) (hb : 4 ≤ b.1 ∧ 24 ≤ b.2)
    (k : ∀ (X' : jx_X) (I' : jx_I) (R' : jx_R) (s' : YZ) (b' : Nat × Nat), LJ X' R' I' a u s' → b.1 ≤ b'.1 + 4 ∧ b.2 ≤ b'.2 + 24 → J 3162 [] [some (.ref V.2.2.2.2.2.1), some (.ref a), some (.ref (a + 147)), some (.ref u), some (jy i), none, none, none] b' X' I' R') : J 1436 [] [some (.ref V.2.2.2.2.2.1), some (.ref a), some (.ref (a + 147)), some (.ref u), some (jy i), none, none, none] b X I R := by
  have hS := jx_piece hS cs_19
  refine jy_aload_n hS rfl rfl ?_
  refine jy_aload_n hS rfl rfl ?_
  refine jy_iload hS rfl rfl ?_
  refine jy_iconst hS rfl ?_
  refine jy_iadd hS rfl ?_
  refine jy_sld hS rfl (by omega) (by omega) ?_
  refine jy_aload_n hS rfl rfl ?_
  refine jy_callS hS rfl rfl rfl (Nat.le_of_ble_eq_true rfl) (wr_19 hV (LJ_a h) h.2.2.2 (kc_19 hV (a1 := (V.2.2.2.2.2.2.2 (i + 1).toNat).toInt) h.1 h.2.2.1 (jy_rng _)) oe_i_19) (by decide) ⟨by (try dsimp only); omega, by (try dsimp only); omega⟩ (Nat.le_of_ble_eq_true rfl) ?_ (fun _ _ _ _ q => q.elim)
  rintro rv X1 I1 R1 ⟨x1, x2, hq⟩
  obtain ⟨w, s1, rfl, hC1, hg1, hf1, hs1⟩ := comb_A oe_i_19 (by decide) h.2.2.1 hq
  have hw := SO_rng hs1
  have hM1 := MI_B h.2.1 h.2.2.1 x2 hf1
  change J 1447 [jy w] _ _ _ _ _
  refine jy_istore hS rfl (Nat.le_of_ble_eq_true rfl) (L' := [some (.ref V.2.2.2.2.2.1), some (.ref a), some (.ref (a + 147)), some (.ref u), some (jy i), some (jy w), none, none]) rfl ?_
  refine jy_aload_n hS rfl rfl ?_
  refine jy_aload_n hS rfl rfl ?_
  refine jy_iload hS rfl rfl ?_
  refine jy_iconst hS rfl ?_
  refine jy_iadd hS rfl ?_
  refine jy_sld hS rfl (by omega) (by omega) ?_
  obtain ⟨Q1, QE1, hK2, m1, m2⟩ := mc_19 hV (a1 := (V.2.2.2.2.2.2.2 (i + 1).toNat).toInt) hM1 h.2.2.1 (jy_rng _)
  refine jy_callV hS rfl rfl rfl (Nat.le_of_ble_eq_true rfl) (Or.inl (MI_m hM1)) hK2 (by decide) ⟨Nat.zero_le _, Nat.zero_le _⟩ (Nat.le_of_ble_eq_true rfl) ?_ (fun _ _ _ _ q => (m2 _ _ _ q.2.2 : False).elim)
  rintro rv2 X2 I2 R2 ⟨e2, hq2⟩
  rw [e2]
  obtain ⟨eR, hf2, hM2, ht2, ⟨r, rfl⟩, hv2⟩ := comb_M ty_int hs1 (m1 _ _ _ hq2)
  rw [eR]
  have hL := LJ_2 hC1 x2 h.2.2.2 hg1 hf2 hM2
  change J 1459 [jy r] _ _ _ _ _
  refine jy_istore hS rfl (Nat.le_of_ble_eq_true rfl) (L' := [some (.ref V.2.2.2.2.2.1), some (.ref a), some (.ref (a + 147)), some (.ref u), some (jy i), some (jy w), some (jy r), none]) rfl ?_
  refine jy_aload_n hS rfl rfl ?_
  refine jy_callV hS rfl rfl rfl (Nat.le_of_ble_eq_true rfl) (Or.inl (MI_m hM2)) (cz_201 hV hM2.1 (QE := fun _ _ => False)) (by decide) ⟨Nat.zero_le _, Nat.zero_le _⟩ (Nat.le_of_ble_eq_true rfl) ?_ (fun _ _ _ _ q => q.2.2.2.elim)
  rintro rv3 X3 I3 R3 ⟨e3, e4, rfl, e5⟩
  rw [e3, e4, e5, ht2]
  change J 1465 [jy w] _ _ _ _ _
  refine jy_iload hS rfl rfl ?_
  refine jy_icmp_s hS rfl ?_
  refine jy_iload hS rfl rfl ?_
  refine jy_if_ne hS rfl (by omega) (fun h0 => ?_) (fun h0 => ?_)
  · refine jy_goto hS rfl ?_
    exact jy_join hS (k _ _ _ _ _ hL ⟨by (try dsimp only); omega, by (try dsimp only); omega⟩) rfl (jy_sub_s (jy_sub_s (jy_sub_s (jy_sub_s (jy_sub_s (jy_sub_n (jy_sub_n (jy_sub_n jy_sub_0))))))))
  · obtain ⟨hv3, hv4⟩ := hv2 h0
    have hv5 := Option.some.inj hv4
    rw [hv5]
    refine jy_aload_n hS rfl rfl ?_
    refine jy_iconst hS rfl ?_
    refine jy_lald hS rfl hL.2.2.2 (by decide) (by omega) ?_
    refine jy_iload hS rfl rfl ?_
    refine jy_i2l hS rfl rfl ?_
    refine jy_lcmp_s hS rfl hv3 ?_
    refine jy_if_0 hS rfl ?_
    refine jy_goto hS rfl ?_
    exact jy_join hS (k _ _ _ _ _ hL ⟨by (try dsimp only); omega, by (try dsimp only); omega⟩) rfl (jy_sub_s (jy_sub_s (jy_sub_s (jy_sub_s (jy_sub_s (jy_sub_n (jy_sub_n (jy_sub_n jy_sub_0))))))))
def cd_20 : List jx_row := [(1492, (.aload_n 1), 1493, 0, 0, 0), (1493, (.aload_n 3), 1494, 0, 0, 0), (1494, (.invokestatic 225), 1497, 353, 2, 2), (1497, (.istore 5), 1499, 0, 0, 0), (1499, (.aload_n 2), 1500, 0, 0, 0), (1500, (.invokevirtual 228), 1503, 266, 0, 0), (1503, (.istore 6), 1505, 0, 0, 0), (1505, (.aload_n 2), 1506, 0, 0, 0), (1506, (.invokevirtual 160), 1509, 201, 0, 0), (1509, (.iload 5), 1511, 0, 0, 0), (1511, (.if_icmp .eq 5), 1514, 1516, 0, 0), (1514, (.iconst 0), 1515, 0, 0, 0), (1515, .ireturn, 1516, 0, 0, 0), (1516, (.iload 5), 1518, 0, 0, 0), (1518, (.ifCond .ne 15), 1521, 1533, 0, 0), (1521, (.aload_n 3), 1522, 0, 0, 0), (1522, (.iconst 0), 1523, 0, 0, 0), (1523, .laload, 1524, 0, 0, 0), (1524, (.iload 6), 1526, 0, 0, 0), (1526, .i2l, 1527, 0, 0, 0), (1527, .lcmp, 1528, 0, 0, 0), (1528, (.ifCond .eq 5), 1531, 1533, 0, 0), (1531, (.iconst 0), 1532, 0, 0, 0), (1532, .ireturn, 1533, 0, 0, 0), (1533, (.goto 1629), 1536, 3162, 0, 0)]
theorem cs_20 : cd_20.all (fun q => decide (jx_at jx_c377 q.1 = some q.2)) = true := by decide +kernel
theorem oe_i_20 {s : YZ}  : ∀ k w, oe_20 s  = some (k, w) → (k, w) ∈ [((3 : Nat), (1 : Int))] := by
  unfold oe_20
  exact nzw_i (by decide) (fun _ _ h => by cases h)
set_option maxRecDepth 20000 in
theorem cl_20 {V : jx_V} (hV : V.1.stackTraces = false) {rt : Option FieldType} {J : jx_Jt} {KR : Option Value → Nat × Nat → jx_X → jx_I → jx_R → Prop} {KX : String → Nat × Nat → jx_X → jx_I → jx_R → Prop} (hS : jx_Snd V 205 rt [] false jx_c377 J KR KX) {X : jx_X} {R : jx_R} {I : jx_I} {a u : Nat} {s : YZ} {i : Int} {b : Nat × Nat} (h : LJ X R I a u s) (hi : 0 ≤ i ∧ i + 6 ≤ (V.2.2.2.2.2.2.1 : Nat)) (hn : V.2.2.2.2.2.2.1 ≤ 3072) (hb : 4 ≤ b.1 ∧ 24 ≤ b.2)
    (k : ∀ (X' : jx_X) (I' : jx_I) (R' : jx_R) (s' : YZ) (b' : Nat × Nat), LJ X' R' I' a u s' → b.1 ≤ b'.1 + 4 ∧ b.2 ≤ b'.2 + 24 → J 3162 [] [some (.ref V.2.2.2.2.2.1), some (.ref a), some (.ref (a + 147)), some (.ref u), some (jy i), none, none, none] b' X' I' R') : J 1492 [] [some (.ref V.2.2.2.2.2.1), some (.ref a), some (.ref (a + 147)), some (.ref u), some (jy i), none, none, none] b X I R := by
  have hS := jx_piece hS cs_20
  refine jy_aload_n hS rfl rfl ?_
  refine jy_aload_n hS rfl rfl ?_
  refine jy_callS hS rfl rfl rfl (Nat.le_of_ble_eq_true rfl) (wr_20 hV (LJ_a h) h.2.2.2 (kc_20 hV  h.1 h.2.2.1 ) oe_i_20) (by decide) ⟨by (try dsimp only); omega, by (try dsimp only); omega⟩ (Nat.le_of_ble_eq_true rfl) ?_ (fun _ _ _ _ q => q.elim)
  rintro rv X1 I1 R1 ⟨x1, x2, hq⟩
  obtain ⟨w, s1, rfl, hC1, hg1, hf1, hs1⟩ := comb_A oe_i_20 (by decide) h.2.2.1 hq
  have hw := SO_rng hs1
  have hM1 := MI_B h.2.1 h.2.2.1 x2 hf1
  change J 1497 [jy w] _ _ _ _ _
  refine jy_istore hS rfl (Nat.le_of_ble_eq_true rfl) (L' := [some (.ref V.2.2.2.2.2.1), some (.ref a), some (.ref (a + 147)), some (.ref u), some (jy i), some (jy w), none, none]) rfl ?_
  refine jy_aload_n hS rfl rfl ?_
  obtain ⟨Q1, QE1, hK2, m1, m2⟩ := mc_20 hV  hM1 h.2.2.1 
  refine jy_callV hS rfl rfl rfl (Nat.le_of_ble_eq_true rfl) (Or.inl (MI_m hM1)) hK2 (by decide) ⟨Nat.zero_le _, Nat.zero_le _⟩ (Nat.le_of_ble_eq_true rfl) ?_ (fun _ _ _ _ q => (m2 _ _ _ q.2.2 : False).elim)
  rintro rv2 X2 I2 R2 ⟨e2, hq2⟩
  rw [e2]
  obtain ⟨eR, hf2, hM2, ht2, ⟨r, rfl⟩, hv2⟩ := comb_M ty_int hs1 (m1 _ _ _ hq2)
  rw [eR]
  have hL := LJ_2 hC1 x2 h.2.2.2 hg1 hf2 hM2
  change J 1503 [jy r] _ _ _ _ _
  refine jy_istore hS rfl (Nat.le_of_ble_eq_true rfl) (L' := [some (.ref V.2.2.2.2.2.1), some (.ref a), some (.ref (a + 147)), some (.ref u), some (jy i), some (jy w), some (jy r), none]) rfl ?_
  refine jy_aload_n hS rfl rfl ?_
  refine jy_callV hS rfl rfl rfl (Nat.le_of_ble_eq_true rfl) (Or.inl (MI_m hM2)) (cz_201 hV hM2.1 (QE := fun _ _ => False)) (by decide) ⟨Nat.zero_le _, Nat.zero_le _⟩ (Nat.le_of_ble_eq_true rfl) ?_ (fun _ _ _ _ q => q.2.2.2.elim)
  rintro rv3 X3 I3 R3 ⟨e3, e4, rfl, e5⟩
  rw [e3, e4, e5, ht2]
  change J 1509 [jy w] _ _ _ _ _
  refine jy_iload hS rfl rfl ?_
  refine jy_icmp_s hS rfl ?_
  refine jy_iload hS rfl rfl ?_
  refine jy_if_ne hS rfl (by omega) (fun h0 => ?_) (fun h0 => ?_)
  · refine jy_goto hS rfl ?_
    exact jy_join hS (k _ _ _ _ _ hL ⟨by (try dsimp only); omega, by (try dsimp only); omega⟩) rfl (jy_sub_s (jy_sub_s (jy_sub_s (jy_sub_s (jy_sub_s (jy_sub_n (jy_sub_n (jy_sub_n jy_sub_0))))))))
  · obtain ⟨hv3, hv4⟩ := hv2 h0
    have hv5 := Option.some.inj hv4
    rw [hv5]
    refine jy_aload_n hS rfl rfl ?_
    refine jy_iconst hS rfl ?_
    refine jy_lald hS rfl hL.2.2.2 (by decide) (by omega) ?_
    refine jy_iload hS rfl rfl ?_
    refine jy_i2l hS rfl rfl ?_
    refine jy_lcmp_s hS rfl hv3 ?_
    refine jy_if_0 hS rfl ?_
    refine jy_goto hS rfl ?_
    exact jy_join hS (k _ _ _ _ _ hL ⟨by (try dsimp only); omega, by (try dsimp only); omega⟩) rfl (jy_sub_s (jy_sub_s (jy_sub_s (jy_sub_s (jy_sub_s (jy_sub_n (jy_sub_n (jy_sub_n jy_sub_0))))))))
def cd_21 : List jx_row := [(1536, (.aload_n 1), 1537, 0, 0, 0), (1537, (.invokevirtual 229), 1540, 159, 0, 0), (1540, (.aload_n 2), 1541, 0, 0, 0), (1541, (.invokevirtual 232), 1544, 267, 0, 0), (1544, (.if_icmp .eq 1618), 1547, 3162, 0, 0), (1547, (.iconst 0), 1548, 0, 0, 0), (1548, .ireturn, 1549, 0, 0, 0)]
theorem cs_21 : cd_21.all (fun q => decide (jx_at jx_c377 q.1 = some q.2)) = true := by decide +kernel
set_option maxRecDepth 20000 in
theorem cl_21 {V : jx_V} (hV : V.1.stackTraces = false) {rt : Option FieldType} {J : jx_Jt} {KR : Option Value → Nat × Nat → jx_X → jx_I → jx_R → Prop} {KX : String → Nat × Nat → jx_X → jx_I → jx_R → Prop} (hS : jx_Snd V 205 rt [] false jx_c377 J KR KX) {X : jx_X} {R : jx_R} {I : jx_I} {a u : Nat} {s : YZ} {i : Int} {b : Nat × Nat} (h : LJ X R I a u s) (hi : 0 ≤ i ∧ i + 6 ≤ (V.2.2.2.2.2.2.1 : Nat)) (hn : V.2.2.2.2.2.2.1 ≤ 3072) (hb : 4 ≤ b.1 ∧ 24 ≤ b.2)
    (k : ∀ (X' : jx_X) (I' : jx_I) (R' : jx_R) (s' : YZ) (b' : Nat × Nat), LJ X' R' I' a u s' → b.1 ≤ b'.1 + 4 ∧ b.2 ≤ b'.2 + 24 → J 3162 [] [some (.ref V.2.2.2.2.2.1), some (.ref a), some (.ref (a + 147)), some (.ref u), some (jy i), none, none, none] b' X' I' R') : J 1536 [] [some (.ref V.2.2.2.2.2.1), some (.ref a), some (.ref (a + 147)), some (.ref u), some (jy i), none, none, none] b X I R := by
  have hS := jx_piece hS cs_21
  refine jy_aload_n hS rfl rfl ?_
  obtain ⟨Q0, QE0, hK, k1, k2⟩ := kc_21 hV  h.1 h.2.2.1 
  refine jy_callV hS rfl rfl rfl (Nat.le_of_ble_eq_true rfl) (Or.inl (LJ_a h)) hK (by decide) ⟨Nat.zero_le _, Nat.zero_le _⟩ (Nat.le_of_ble_eq_true rfl) ?_ (fun _ _ _ _ q => (k2 _ _ _ q.2.2 : False).elim)
  rintro rv X1 I1 R1 ⟨e1, hq⟩
  rw [e1]
  obtain ⟨rfl, hC1, hg1, hf1⟩ := KQ_n (k1 _ _ _ hq)
  have hM1 := MI_B h.2.1 h.2.2.1 (X' := X) rfl hf1
  change J 1540 [jy (ov_21 s )] _ _ _ _ _
  refine jy_aload_n hS rfl rfl ?_
  obtain ⟨Q1, QE1, hK2, m1, m2⟩ := mc_21 hV  hM1 h.2.2.1 
  refine jy_callV hS rfl rfl rfl (Nat.le_of_ble_eq_true rfl) (Or.inl (MI_m hM1)) hK2 (by decide) ⟨Nat.zero_le _, Nat.zero_le _⟩ (Nat.le_of_ble_eq_true rfl) ?_ (fun _ _ _ _ q => (m2 _ _ _ q.2.2 : False).elim)
  rintro rv2 X2 I2 R2 ⟨e2, hq2⟩
  rw [e2]
  obtain ⟨eR, hf2, hM2, rfl⟩ := MQ_n (m1 _ _ _ hq2)
  rw [eR]
  have hL := LJ_2 hC1 (X' := X) rfl h.2.2.2 hg1 hf2 hM2
  change J 1544 [jy (ov_21 s ), jy (ov_21 s )] _ _ _ _ _
  refine jy_icmp_s hS rfl ?_
  exact jy_join hS (k _ _ _ _ _ hL ⟨by (try dsimp only); omega, by (try dsimp only); omega⟩) rfl (jy_sub_s (jy_sub_s (jy_sub_s (jy_sub_s (jy_sub_s (jy_sub_n (jy_sub_n (jy_sub_n jy_sub_0))))))))
def cd_22 : List jx_row := [(1549, (.aload_n 1), 1550, 0, 0, 0), (1550, (.aload_n 0), 1551, 0, 0, 0), (1551, (.iload 4), 1553, 0, 0, 0), (1553, (.iconst 1), 1554, 0, 0, 0), (1554, .iadd, 1555, 0, 0, 0), (1555, .iaload, 1556, 0, 0, 0), (1556, (.aload_n 0), 1557, 0, 0, 0), (1557, (.iload 4), 1559, 0, 0, 0), (1559, (.iconst 2), 1560, 0, 0, 0), (1560, .iadd, 1561, 0, 0, 0), (1561, .iaload, 1562, 0, 0, 0), (1562, (.aload_n 0), 1563, 0, 0, 0), (1563, (.iload 4), 1565, 0, 0, 0), (1565, (.iconst 3), 1566, 0, 0, 0), (1566, .iadd, 1567, 0, 0, 0), (1567, .iaload, 1568, 0, 0, 0), (1568, (.aload_n 3), 1569, 0, 0, 0), (1569, (.invokestatic 233), 1572, 354, 5, 2), (1572, (.istore 5), 1574, 0, 0, 0), (1574, (.aload_n 2), 1575, 0, 0, 0), (1575, (.aload_n 0), 1576, 0, 0, 0), (1576, (.iload 4), 1578, 0, 0, 0), (1578, (.iconst 1), 1579, 0, 0, 0), (1579, .iadd, 1580, 0, 0, 0), (1580, .iaload, 1581, 0, 0, 0), (1581, (.aload_n 0), 1582, 0, 0, 0), (1582, (.iload 4), 1584, 0, 0, 0), (1584, (.iconst 2), 1585, 0, 0, 0), (1585, .iadd, 1586, 0, 0, 0), (1586, .iaload, 1587, 0, 0, 0), (1587, (.aload_n 0), 1588, 0, 0, 0), (1588, (.iload 4), 1590, 0, 0, 0), (1590, (.iconst 3), 1591, 0, 0, 0), (1591, .iadd, 1592, 0, 0, 0), (1592, .iaload, 1593, 0, 0, 0), (1593, (.invokevirtual 235), 1596, 269, 3, 0), (1596, (.lstore 6), 1598, 0, 0, 0), (1598, (.aload_n 2), 1599, 0, 0, 0), (1599, (.invokevirtual 160), 1602, 201, 0, 0), (1602, (.iload 5), 1604, 0, 0, 0), (1604, (.if_icmp .eq 5), 1607, 1609, 0, 0), (1607, (.iconst 0), 1608, 0, 0, 0), (1608, .ireturn, 1609, 0, 0, 0), (1609, (.iload 5), 1611, 0, 0, 0), (1611, (.ifCond .ne 14), 1614, 1625, 0, 0), (1614, (.aload_n 3), 1615, 0, 0, 0), (1615, (.iconst 0), 1616, 0, 0, 0), (1616, .laload, 1617, 0, 0, 0), (1617, (.lload 6), 1619, 0, 0, 0), (1619, .lcmp, 1620, 0, 0, 0), (1620, (.ifCond .eq 5), 1623, 1625, 0, 0), (1623, (.iconst 0), 1624, 0, 0, 0), (1624, .ireturn, 1625, 0, 0, 0), (1625, (.goto 1537), 1628, 3162, 0, 0)]
theorem cs_22 : cd_22.all (fun q => decide (jx_at jx_c377 q.1 = some q.2)) = true := by decide +kernel
theorem oe_i_22 {s : YZ} {a1 : Int} {a2 : Int} {a3 : Int} : ∀ k w, oe_22 s a1 a2 a3 = some (k, w) → (k, w) ∈ [((0 : Nat), (1 : Int)), ((2 : Nat), (2 : Int))] := by
  unfold oe_22
  exact nzw_i (by decide) (nzw_i (by decide) (fun _ _ h => by cases h))
set_option maxRecDepth 20000 in
theorem cl_22 {V : jx_V} (hV : V.1.stackTraces = false) {rt : Option FieldType} {J : jx_Jt} {KR : Option Value → Nat × Nat → jx_X → jx_I → jx_R → Prop} {KX : String → Nat × Nat → jx_X → jx_I → jx_R → Prop} (hS : jx_Snd V 205 rt [] false jx_c377 J KR KX) {X : jx_X} {R : jx_R} {I : jx_I} {a u : Nat} {s : YZ} {i : Int} {b : Nat × Nat} (h : LJ X R I a u s) (hi : 0 ≤ i ∧ i + 6 ≤ (V.2.2.2.2.2.2.1 : Nat)) (hn : V.2.2.2.2.2.2.1 ≤ 3072) (hb : 4 ≤ b.1 ∧ 24 ≤ b.2)
    (k : ∀ (X' : jx_X) (I' : jx_I) (R' : jx_R) (s' : YZ) (b' : Nat × Nat), LJ X' R' I' a u s' → b.1 ≤ b'.1 + 4 ∧ b.2 ≤ b'.2 + 24 → J 3162 [] [some (.ref V.2.2.2.2.2.1), some (.ref a), some (.ref (a + 147)), some (.ref u), some (jy i), none, none, none] b' X' I' R') : J 1549 [] [some (.ref V.2.2.2.2.2.1), some (.ref a), some (.ref (a + 147)), some (.ref u), some (jy i), none, none, none] b X I R := by
  have hS := jx_piece hS cs_22
  refine jy_aload_n hS rfl rfl ?_
  refine jy_aload_n hS rfl rfl ?_
  refine jy_iload hS rfl rfl ?_
  refine jy_iconst hS rfl ?_
  refine jy_iadd hS rfl ?_
  refine jy_sld hS rfl (by omega) (by omega) ?_
  refine jy_aload_n hS rfl rfl ?_
  refine jy_iload hS rfl rfl ?_
  refine jy_iconst hS rfl ?_
  refine jy_iadd hS rfl ?_
  refine jy_sld hS rfl (by omega) (by omega) ?_
  refine jy_aload_n hS rfl rfl ?_
  refine jy_iload hS rfl rfl ?_
  refine jy_iconst hS rfl ?_
  refine jy_iadd hS rfl ?_
  refine jy_sld hS rfl (by omega) (by omega) ?_
  refine jy_aload_n hS rfl rfl ?_
  refine jy_callS hS rfl rfl rfl (Nat.le_of_ble_eq_true rfl) (wr_22 hV (LJ_a h) h.2.2.2 (kc_22 hV (a1 := (V.2.2.2.2.2.2.2 (i + 1).toNat).toInt) (a2 := (V.2.2.2.2.2.2.2 (i + 2).toNat).toInt) (a3 := (V.2.2.2.2.2.2.2 (i + 3).toNat).toInt) h.1 h.2.2.1 (jy_rng _) (jy_rng _) (jy_rng _)) oe_i_22) (by decide) ⟨by (try dsimp only); omega, by (try dsimp only); omega⟩ (Nat.le_of_ble_eq_true rfl) ?_ (fun _ _ _ _ q => q.elim)
  rintro rv X1 I1 R1 ⟨x1, x2, hq⟩
  obtain ⟨w, s1, rfl, hC1, hg1, hf1, hs1⟩ := comb_A oe_i_22 (by decide) h.2.2.1 hq
  have hw := SO_rng hs1
  have hM1 := MI_B h.2.1 h.2.2.1 x2 hf1
  change J 1572 [jy w] _ _ _ _ _
  refine jy_istore hS rfl (Nat.le_of_ble_eq_true rfl) (L' := [some (.ref V.2.2.2.2.2.1), some (.ref a), some (.ref (a + 147)), some (.ref u), some (jy i), some (jy w), none, none]) rfl ?_
  refine jy_aload_n hS rfl rfl ?_
  refine jy_aload_n hS rfl rfl ?_
  refine jy_iload hS rfl rfl ?_
  refine jy_iconst hS rfl ?_
  refine jy_iadd hS rfl ?_
  refine jy_sld hS rfl (by omega) (by omega) ?_
  refine jy_aload_n hS rfl rfl ?_
  refine jy_iload hS rfl rfl ?_
  refine jy_iconst hS rfl ?_
  refine jy_iadd hS rfl ?_
  refine jy_sld hS rfl (by omega) (by omega) ?_
  refine jy_aload_n hS rfl rfl ?_
  refine jy_iload hS rfl rfl ?_
  refine jy_iconst hS rfl ?_
  refine jy_iadd hS rfl ?_
  refine jy_sld hS rfl (by omega) (by omega) ?_
  obtain ⟨Q1, QE1, hK2, m1, m2⟩ := mc_22 hV (a1 := (V.2.2.2.2.2.2.2 (i + 1).toNat).toInt) (a2 := (V.2.2.2.2.2.2.2 (i + 2).toNat).toInt) (a3 := (V.2.2.2.2.2.2.2 (i + 3).toNat).toInt) hM1 h.2.2.1 (jy_rng _) (jy_rng _) (jy_rng _)
  refine jy_callV hS rfl rfl rfl (Nat.le_of_ble_eq_true rfl) (Or.inl (MI_m hM1)) hK2 (by decide) ⟨Nat.zero_le _, Nat.zero_le _⟩ (Nat.le_of_ble_eq_true rfl) ?_ (fun _ _ _ _ q => (m2 _ _ _ q.2.2 : False).elim)
  rintro rv2 X2 I2 R2 ⟨e2, hq2⟩
  rw [e2]
  obtain ⟨eR, hf2, hM2, ht2, ⟨r, rfl⟩, hv2⟩ := comb_M ty_lng hs1 (m1 _ _ _ hq2)
  rw [eR]
  have hL := LJ_2 hC1 x2 h.2.2.2 hg1 hf2 hM2
  change J 1596 [.long r] _ _ _ _ _
  refine jy_lstore hS rfl (Nat.le_of_ble_eq_true rfl) (L' := [some (.ref V.2.2.2.2.2.1), some (.ref a), some (.ref (a + 147)), some (.ref u), some (jy i), some (jy w), some (.long r), none]) rfl ?_
  refine jy_aload_n hS rfl rfl ?_
  refine jy_callV hS rfl rfl rfl (Nat.le_of_ble_eq_true rfl) (Or.inl (MI_m hM2)) (cz_201 hV hM2.1 (QE := fun _ _ => False)) (by decide) ⟨Nat.zero_le _, Nat.zero_le _⟩ (Nat.le_of_ble_eq_true rfl) ?_ (fun _ _ _ _ q => q.2.2.2.elim)
  rintro rv3 X3 I3 R3 ⟨e3, e4, rfl, e5⟩
  rw [e3, e4, e5, ht2]
  change J 1602 [jy w] _ _ _ _ _
  refine jy_iload hS rfl rfl ?_
  refine jy_icmp_s hS rfl ?_
  refine jy_iload hS rfl rfl ?_
  refine jy_if_ne hS rfl (by omega) (fun h0 => ?_) (fun h0 => ?_)
  · refine jy_goto hS rfl ?_
    exact jy_join hS (k _ _ _ _ _ hL ⟨by (try dsimp only); omega, by (try dsimp only); omega⟩) rfl (jy_sub_s (jy_sub_s (jy_sub_s (jy_sub_s (jy_sub_s (jy_sub_n (jy_sub_n (jy_sub_n jy_sub_0))))))))
  · obtain ⟨hv3, hv4⟩ := hv2 h0
    have hv5 := Option.some.inj hv4
    have hv6 : r = ov_22 s ((V.2.2.2.2.2.2.2 (i + 1).toNat).toInt) ((V.2.2.2.2.2.2.2 (i + 2).toNat).toInt) ((V.2.2.2.2.2.2.2 (i + 3).toNat).toInt) := by injection hv5
    rw [hv6]
    refine jy_aload_n hS rfl rfl ?_
    refine jy_iconst hS rfl ?_
    refine jy_lald hS rfl hL.2.2.2 (by decide) (by omega) ?_
    refine jy_lload hS rfl rfl ?_
    refine jy_lcmp_s hS rfl hv3 ?_
    refine jy_if_0 hS rfl ?_
    refine jy_goto hS rfl ?_
    exact jy_join hS (k _ _ _ _ _ hL ⟨by (try dsimp only); omega, by (try dsimp only); omega⟩) rfl (jy_sub_s (jy_sub_s (jy_sub_s (jy_sub_s (jy_sub_s (jy_sub_n (jy_sub_n (jy_sub_n jy_sub_0))))))))
def cd_23 : List jx_row := [(1628, (.aload_n 1), 1629, 0, 0, 0), (1629, (.aload_n 0), 1630, 0, 0, 0), (1630, (.iload 4), 1632, 0, 0, 0), (1632, (.iconst 1), 1633, 0, 0, 0), (1633, .iadd, 1634, 0, 0, 0), (1634, .iaload, 1635, 0, 0, 0), (1635, (.aload_n 0), 1636, 0, 0, 0), (1636, (.iload 4), 1638, 0, 0, 0), (1638, (.iconst 2), 1639, 0, 0, 0), (1639, .iadd, 1640, 0, 0, 0), (1640, .iaload, 1641, 0, 0, 0), (1641, (.aload_n 3), 1642, 0, 0, 0), (1642, (.invokestatic 236), 1645, 355, 4, 2), (1645, (.istore 5), 1647, 0, 0, 0), (1647, (.aload_n 2), 1648, 0, 0, 0), (1648, (.aload_n 0), 1649, 0, 0, 0), (1649, (.iload 4), 1651, 0, 0, 0), (1651, (.iconst 1), 1652, 0, 0, 0), (1652, .iadd, 1653, 0, 0, 0), (1653, .iaload, 1654, 0, 0, 0), (1654, (.aload_n 0), 1655, 0, 0, 0), (1655, (.iload 4), 1657, 0, 0, 0), (1657, (.iconst 2), 1658, 0, 0, 0), (1658, .iadd, 1659, 0, 0, 0), (1659, .iaload, 1660, 0, 0, 0), (1660, (.invokevirtual 238), 1663, 275, 2, 0), (1663, (.istore 6), 1665, 0, 0, 0), (1665, (.aload_n 2), 1666, 0, 0, 0), (1666, (.invokevirtual 160), 1669, 201, 0, 0), (1669, (.iload 5), 1671, 0, 0, 0), (1671, (.if_icmp .eq 5), 1674, 1676, 0, 0), (1674, (.iconst 0), 1675, 0, 0, 0), (1675, .ireturn, 1676, 0, 0, 0), (1676, (.iload 5), 1678, 0, 0, 0), (1678, (.ifCond .ne 15), 1681, 1693, 0, 0), (1681, (.aload_n 3), 1682, 0, 0, 0), (1682, (.iconst 0), 1683, 0, 0, 0), (1683, .laload, 1684, 0, 0, 0), (1684, (.iload 6), 1686, 0, 0, 0), (1686, .i2l, 1687, 0, 0, 0), (1687, .lcmp, 1688, 0, 0, 0), (1688, (.ifCond .eq 5), 1691, 1693, 0, 0), (1691, (.iconst 0), 1692, 0, 0, 0), (1692, .ireturn, 1693, 0, 0, 0), (1693, (.goto 1469), 1696, 3162, 0, 0)]
theorem cs_23 : cd_23.all (fun q => decide (jx_at jx_c377 q.1 = some q.2)) = true := by decide +kernel
theorem oe_i_23 {s : YZ} {a1 : Int} {a2 : Int} : ∀ k w, oe_23 s a1 a2 = some (k, w) → (k, w) ∈ [((2 : Nat), (1 : Int)), ((3 : Nat), (2 : Int))] := by
  unfold oe_23
  exact nzw_i (by decide) (nzw_i (by decide) (fun _ _ h => by cases h))
set_option maxRecDepth 20000 in
theorem cl_23 {V : jx_V} (hV : V.1.stackTraces = false) {rt : Option FieldType} {J : jx_Jt} {KR : Option Value → Nat × Nat → jx_X → jx_I → jx_R → Prop} {KX : String → Nat × Nat → jx_X → jx_I → jx_R → Prop} (hS : jx_Snd V 205 rt [] false jx_c377 J KR KX) {X : jx_X} {R : jx_R} {I : jx_I} {a u : Nat} {s : YZ} {i : Int} {b : Nat × Nat} (h : LJ X R I a u s) (hi : 0 ≤ i ∧ i + 6 ≤ (V.2.2.2.2.2.2.1 : Nat)) (hn : V.2.2.2.2.2.2.1 ≤ 3072) (hb : 4 ≤ b.1 ∧ 24 ≤ b.2)
    (k : ∀ (X' : jx_X) (I' : jx_I) (R' : jx_R) (s' : YZ) (b' : Nat × Nat), LJ X' R' I' a u s' → b.1 ≤ b'.1 + 4 ∧ b.2 ≤ b'.2 + 24 → J 3162 [] [some (.ref V.2.2.2.2.2.1), some (.ref a), some (.ref (a + 147)), some (.ref u), some (jy i), none, none, none] b' X' I' R') : J 1628 [] [some (.ref V.2.2.2.2.2.1), some (.ref a), some (.ref (a + 147)), some (.ref u), some (jy i), none, none, none] b X I R := by
  have hS := jx_piece hS cs_23
  refine jy_aload_n hS rfl rfl ?_
  refine jy_aload_n hS rfl rfl ?_
  refine jy_iload hS rfl rfl ?_
  refine jy_iconst hS rfl ?_
  refine jy_iadd hS rfl ?_
  refine jy_sld hS rfl (by omega) (by omega) ?_
  refine jy_aload_n hS rfl rfl ?_
  refine jy_iload hS rfl rfl ?_
  refine jy_iconst hS rfl ?_
  refine jy_iadd hS rfl ?_
  refine jy_sld hS rfl (by omega) (by omega) ?_
  refine jy_aload_n hS rfl rfl ?_
  refine jy_callS hS rfl rfl rfl (Nat.le_of_ble_eq_true rfl) (wr_23 hV (LJ_a h) h.2.2.2 (kc_23 hV (a1 := (V.2.2.2.2.2.2.2 (i + 1).toNat).toInt) (a2 := (V.2.2.2.2.2.2.2 (i + 2).toNat).toInt) h.1 h.2.2.1 (jy_rng _) (jy_rng _)) oe_i_23) (by decide) ⟨by (try dsimp only); omega, by (try dsimp only); omega⟩ (Nat.le_of_ble_eq_true rfl) ?_ (fun _ _ _ _ q => q.elim)
  rintro rv X1 I1 R1 ⟨x1, x2, hq⟩
  obtain ⟨w, s1, rfl, hC1, hg1, hf1, hs1⟩ := comb_A oe_i_23 (by decide) h.2.2.1 hq
  have hw := SO_rng hs1
  have hM1 := MI_B h.2.1 h.2.2.1 x2 hf1
  change J 1645 [jy w] _ _ _ _ _
  refine jy_istore hS rfl (Nat.le_of_ble_eq_true rfl) (L' := [some (.ref V.2.2.2.2.2.1), some (.ref a), some (.ref (a + 147)), some (.ref u), some (jy i), some (jy w), none, none]) rfl ?_
  refine jy_aload_n hS rfl rfl ?_
  refine jy_aload_n hS rfl rfl ?_
  refine jy_iload hS rfl rfl ?_
  refine jy_iconst hS rfl ?_
  refine jy_iadd hS rfl ?_
  refine jy_sld hS rfl (by omega) (by omega) ?_
  refine jy_aload_n hS rfl rfl ?_
  refine jy_iload hS rfl rfl ?_
  refine jy_iconst hS rfl ?_
  refine jy_iadd hS rfl ?_
  refine jy_sld hS rfl (by omega) (by omega) ?_
  obtain ⟨Q1, QE1, hK2, m1, m2⟩ := mc_23 hV (a1 := (V.2.2.2.2.2.2.2 (i + 1).toNat).toInt) (a2 := (V.2.2.2.2.2.2.2 (i + 2).toNat).toInt) hM1 h.2.2.1 (jy_rng _) (jy_rng _)
  refine jy_callV hS rfl rfl rfl (Nat.le_of_ble_eq_true rfl) (Or.inl (MI_m hM1)) hK2 (by decide) ⟨Nat.zero_le _, Nat.zero_le _⟩ (Nat.le_of_ble_eq_true rfl) ?_ (fun _ _ _ _ q => (m2 _ _ _ q.2.2 : False).elim)
  rintro rv2 X2 I2 R2 ⟨e2, hq2⟩
  rw [e2]
  obtain ⟨eR, hf2, hM2, ht2, ⟨r, rfl⟩, hv2⟩ := comb_M ty_int hs1 (m1 _ _ _ hq2)
  rw [eR]
  have hL := LJ_2 hC1 x2 h.2.2.2 hg1 hf2 hM2
  change J 1663 [jy r] _ _ _ _ _
  refine jy_istore hS rfl (Nat.le_of_ble_eq_true rfl) (L' := [some (.ref V.2.2.2.2.2.1), some (.ref a), some (.ref (a + 147)), some (.ref u), some (jy i), some (jy w), some (jy r), none]) rfl ?_
  refine jy_aload_n hS rfl rfl ?_
  refine jy_callV hS rfl rfl rfl (Nat.le_of_ble_eq_true rfl) (Or.inl (MI_m hM2)) (cz_201 hV hM2.1 (QE := fun _ _ => False)) (by decide) ⟨Nat.zero_le _, Nat.zero_le _⟩ (Nat.le_of_ble_eq_true rfl) ?_ (fun _ _ _ _ q => q.2.2.2.elim)
  rintro rv3 X3 I3 R3 ⟨e3, e4, rfl, e5⟩
  rw [e3, e4, e5, ht2]
  change J 1669 [jy w] _ _ _ _ _
  refine jy_iload hS rfl rfl ?_
  refine jy_icmp_s hS rfl ?_
  refine jy_iload hS rfl rfl ?_
  refine jy_if_ne hS rfl (by omega) (fun h0 => ?_) (fun h0 => ?_)
  · refine jy_goto hS rfl ?_
    exact jy_join hS (k _ _ _ _ _ hL ⟨by (try dsimp only); omega, by (try dsimp only); omega⟩) rfl (jy_sub_s (jy_sub_s (jy_sub_s (jy_sub_s (jy_sub_s (jy_sub_n (jy_sub_n (jy_sub_n jy_sub_0))))))))
  · obtain ⟨hv3, hv4⟩ := hv2 h0
    have hv5 := Option.some.inj hv4
    rw [hv5]
    refine jy_aload_n hS rfl rfl ?_
    refine jy_iconst hS rfl ?_
    refine jy_lald hS rfl hL.2.2.2 (by decide) (by omega) ?_
    refine jy_iload hS rfl rfl ?_
    refine jy_i2l hS rfl rfl ?_
    refine jy_lcmp_s hS rfl hv3 ?_
    refine jy_if_0 hS rfl ?_
    refine jy_goto hS rfl ?_
    exact jy_join hS (k _ _ _ _ _ hL ⟨by (try dsimp only); omega, by (try dsimp only); omega⟩) rfl (jy_sub_s (jy_sub_s (jy_sub_s (jy_sub_s (jy_sub_s (jy_sub_n (jy_sub_n (jy_sub_n jy_sub_0))))))))
def cd_24 : List jx_row := [(1696, (.aload_n 1), 1697, 0, 0, 0), (1697, (.aload_n 0), 1698, 0, 0, 0), (1698, (.iload 4), 1700, 0, 0, 0), (1700, (.iconst 1), 1701, 0, 0, 0), (1701, .iadd, 1702, 0, 0, 0), (1702, .iaload, 1703, 0, 0, 0), (1703, (.aload_n 3), 1704, 0, 0, 0), (1704, (.invokestatic 239), 1707, 356, 3, 2), (1707, (.istore 5), 1709, 0, 0, 0), (1709, (.aload_n 2), 1710, 0, 0, 0), (1710, (.aload_n 0), 1711, 0, 0, 0), (1711, (.iload 4), 1713, 0, 0, 0), (1713, (.iconst 1), 1714, 0, 0, 0), (1714, .iadd, 1715, 0, 0, 0), (1715, .iaload, 1716, 0, 0, 0), (1716, (.invokevirtual 241), 1719, 278, 1, 0), (1719, (.istore 6), 1721, 0, 0, 0), (1721, (.aload_n 2), 1722, 0, 0, 0), (1722, (.invokevirtual 160), 1725, 201, 0, 0), (1725, (.iload 5), 1727, 0, 0, 0), (1727, (.if_icmp .eq 5), 1730, 1732, 0, 0), (1730, (.iconst 0), 1731, 0, 0, 0), (1731, .ireturn, 1732, 0, 0, 0), (1732, (.iload 5), 1734, 0, 0, 0), (1734, (.ifCond .ne 15), 1737, 1749, 0, 0), (1737, (.aload_n 3), 1738, 0, 0, 0), (1738, (.iconst 0), 1739, 0, 0, 0), (1739, .laload, 1740, 0, 0, 0), (1740, (.iload 6), 1742, 0, 0, 0), (1742, .i2l, 1743, 0, 0, 0), (1743, .lcmp, 1744, 0, 0, 0), (1744, (.ifCond .eq 5), 1747, 1749, 0, 0), (1747, (.iconst 0), 1748, 0, 0, 0), (1748, .ireturn, 1749, 0, 0, 0), (1749, (.goto 1413), 1752, 3162, 0, 0)]
theorem cs_24 : cd_24.all (fun q => decide (jx_at jx_c377 q.1 = some q.2)) = true := by decide +kernel
theorem oe_i_24 {s : YZ} {a1 : Int} : ∀ k w, oe_24 s a1 = some (k, w) → (k, w) ∈ [((2 : Nat), (1 : Int)), ((3 : Nat), (2 : Int))] := by
  unfold oe_24
  exact nzw_i (by decide) (nzw_i (by decide) (fun _ _ h => by cases h))
set_option maxRecDepth 20000 in
theorem cl_24 {V : jx_V} (hV : V.1.stackTraces = false) {rt : Option FieldType} {J : jx_Jt} {KR : Option Value → Nat × Nat → jx_X → jx_I → jx_R → Prop} {KX : String → Nat × Nat → jx_X → jx_I → jx_R → Prop} (hS : jx_Snd V 205 rt [] false jx_c377 J KR KX) {X : jx_X} {R : jx_R} {I : jx_I} {a u : Nat} {s : YZ} {i : Int} {b : Nat × Nat} (h : LJ X R I a u s) (hi : 0 ≤ i ∧ i + 6 ≤ (V.2.2.2.2.2.2.1 : Nat)) (hn : V.2.2.2.2.2.2.1 ≤ 3072) (hb : 4 ≤ b.1 ∧ 24 ≤ b.2)
    (k : ∀ (X' : jx_X) (I' : jx_I) (R' : jx_R) (s' : YZ) (b' : Nat × Nat), LJ X' R' I' a u s' → b.1 ≤ b'.1 + 4 ∧ b.2 ≤ b'.2 + 24 → J 3162 [] [some (.ref V.2.2.2.2.2.1), some (.ref a), some (.ref (a + 147)), some (.ref u), some (jy i), none, none, none] b' X' I' R') : J 1696 [] [some (.ref V.2.2.2.2.2.1), some (.ref a), some (.ref (a + 147)), some (.ref u), some (jy i), none, none, none] b X I R := by
  have hS := jx_piece hS cs_24
  refine jy_aload_n hS rfl rfl ?_
  refine jy_aload_n hS rfl rfl ?_
  refine jy_iload hS rfl rfl ?_
  refine jy_iconst hS rfl ?_
  refine jy_iadd hS rfl ?_
  refine jy_sld hS rfl (by omega) (by omega) ?_
  refine jy_aload_n hS rfl rfl ?_
  refine jy_callS hS rfl rfl rfl (Nat.le_of_ble_eq_true rfl) (wr_24 hV (LJ_a h) h.2.2.2 (kc_24 hV (a1 := (V.2.2.2.2.2.2.2 (i + 1).toNat).toInt) h.1 h.2.2.1 (jy_rng _)) oe_i_24) (by decide) ⟨by (try dsimp only); omega, by (try dsimp only); omega⟩ (Nat.le_of_ble_eq_true rfl) ?_ (fun _ _ _ _ q => q.elim)
  rintro rv X1 I1 R1 ⟨x1, x2, hq⟩
  obtain ⟨w, s1, rfl, hC1, hg1, hf1, hs1⟩ := comb_A oe_i_24 (by decide) h.2.2.1 hq
  have hw := SO_rng hs1
  have hM1 := MI_B h.2.1 h.2.2.1 x2 hf1
  change J 1707 [jy w] _ _ _ _ _
  refine jy_istore hS rfl (Nat.le_of_ble_eq_true rfl) (L' := [some (.ref V.2.2.2.2.2.1), some (.ref a), some (.ref (a + 147)), some (.ref u), some (jy i), some (jy w), none, none]) rfl ?_
  refine jy_aload_n hS rfl rfl ?_
  refine jy_aload_n hS rfl rfl ?_
  refine jy_iload hS rfl rfl ?_
  refine jy_iconst hS rfl ?_
  refine jy_iadd hS rfl ?_
  refine jy_sld hS rfl (by omega) (by omega) ?_
  obtain ⟨Q1, QE1, hK2, m1, m2⟩ := mc_24 hV (a1 := (V.2.2.2.2.2.2.2 (i + 1).toNat).toInt) hM1 h.2.2.1 (jy_rng _)
  refine jy_callV hS rfl rfl rfl (Nat.le_of_ble_eq_true rfl) (Or.inl (MI_m hM1)) hK2 (by decide) ⟨Nat.zero_le _, Nat.zero_le _⟩ (Nat.le_of_ble_eq_true rfl) ?_ (fun _ _ _ _ q => (m2 _ _ _ q.2.2 : False).elim)
  rintro rv2 X2 I2 R2 ⟨e2, hq2⟩
  rw [e2]
  obtain ⟨eR, hf2, hM2, ht2, ⟨r, rfl⟩, hv2⟩ := comb_M ty_int hs1 (m1 _ _ _ hq2)
  rw [eR]
  have hL := LJ_2 hC1 x2 h.2.2.2 hg1 hf2 hM2
  change J 1719 [jy r] _ _ _ _ _
  refine jy_istore hS rfl (Nat.le_of_ble_eq_true rfl) (L' := [some (.ref V.2.2.2.2.2.1), some (.ref a), some (.ref (a + 147)), some (.ref u), some (jy i), some (jy w), some (jy r), none]) rfl ?_
  refine jy_aload_n hS rfl rfl ?_
  refine jy_callV hS rfl rfl rfl (Nat.le_of_ble_eq_true rfl) (Or.inl (MI_m hM2)) (cz_201 hV hM2.1 (QE := fun _ _ => False)) (by decide) ⟨Nat.zero_le _, Nat.zero_le _⟩ (Nat.le_of_ble_eq_true rfl) ?_ (fun _ _ _ _ q => q.2.2.2.elim)
  rintro rv3 X3 I3 R3 ⟨e3, e4, rfl, e5⟩
  rw [e3, e4, e5, ht2]
  change J 1725 [jy w] _ _ _ _ _
  refine jy_iload hS rfl rfl ?_
  refine jy_icmp_s hS rfl ?_
  refine jy_iload hS rfl rfl ?_
  refine jy_if_ne hS rfl (by omega) (fun h0 => ?_) (fun h0 => ?_)
  · refine jy_goto hS rfl ?_
    exact jy_join hS (k _ _ _ _ _ hL ⟨by (try dsimp only); omega, by (try dsimp only); omega⟩) rfl (jy_sub_s (jy_sub_s (jy_sub_s (jy_sub_s (jy_sub_s (jy_sub_n (jy_sub_n (jy_sub_n jy_sub_0))))))))
  · obtain ⟨hv3, hv4⟩ := hv2 h0
    have hv5 := Option.some.inj hv4
    rw [hv5]
    refine jy_aload_n hS rfl rfl ?_
    refine jy_iconst hS rfl ?_
    refine jy_lald hS rfl hL.2.2.2 (by decide) (by omega) ?_
    refine jy_iload hS rfl rfl ?_
    refine jy_i2l hS rfl rfl ?_
    refine jy_lcmp_s hS rfl hv3 ?_
    refine jy_if_0 hS rfl ?_
    refine jy_goto hS rfl ?_
    exact jy_join hS (k _ _ _ _ _ hL ⟨by (try dsimp only); omega, by (try dsimp only); omega⟩) rfl (jy_sub_s (jy_sub_s (jy_sub_s (jy_sub_s (jy_sub_s (jy_sub_n (jy_sub_n (jy_sub_n jy_sub_0))))))))
def cd_25 : List jx_row := [(1752, (.aload_n 1), 1753, 0, 0, 0), (1753, (.aload_n 0), 1754, 0, 0, 0), (1754, (.iload 4), 1756, 0, 0, 0), (1756, (.iconst 1), 1757, 0, 0, 0), (1757, .iadd, 1758, 0, 0, 0), (1758, .iaload, 1759, 0, 0, 0), (1759, (.aload_n 3), 1760, 0, 0, 0), (1760, (.invokestatic 242), 1763, 357, 3, 2), (1763, (.istore 5), 1765, 0, 0, 0), (1765, (.aload_n 2), 1766, 0, 0, 0), (1766, (.aload_n 0), 1767, 0, 0, 0), (1767, (.iload 4), 1769, 0, 0, 0), (1769, (.iconst 1), 1770, 0, 0, 0), (1770, .iadd, 1771, 0, 0, 0), (1771, .iaload, 1772, 0, 0, 0), (1772, (.invokevirtual 244), 1775, 279, 1, 0), (1775, (.istore 6), 1777, 0, 0, 0), (1777, (.aload_n 2), 1778, 0, 0, 0), (1778, (.invokevirtual 160), 1781, 201, 0, 0), (1781, (.iload 5), 1783, 0, 0, 0), (1783, (.if_icmp .eq 5), 1786, 1788, 0, 0), (1786, (.iconst 0), 1787, 0, 0, 0), (1787, .ireturn, 1788, 0, 0, 0), (1788, (.iload 5), 1790, 0, 0, 0), (1790, (.ifCond .ne 15), 1793, 1805, 0, 0), (1793, (.aload_n 3), 1794, 0, 0, 0), (1794, (.iconst 0), 1795, 0, 0, 0), (1795, .laload, 1796, 0, 0, 0), (1796, (.iload 6), 1798, 0, 0, 0), (1798, .i2l, 1799, 0, 0, 0), (1799, .lcmp, 1800, 0, 0, 0), (1800, (.ifCond .eq 5), 1803, 1805, 0, 0), (1803, (.iconst 0), 1804, 0, 0, 0), (1804, .ireturn, 1805, 0, 0, 0), (1805, (.goto 1357), 1808, 3162, 0, 0)]
theorem cs_25 : cd_25.all (fun q => decide (jx_at jx_c377 q.1 = some q.2)) = true := by decide +kernel
theorem oe_i_25 {s : YZ} {a1 : Int} : ∀ k w, oe_25 s a1 = some (k, w) → (k, w) ∈ [((2 : Nat), (1 : Int)), ((3 : Nat), (2 : Int))] := by
  unfold oe_25
  exact nzw_i (by decide) (nzw_i (by decide) (fun _ _ h => by cases h))
set_option maxRecDepth 20000 in
theorem cl_25 {V : jx_V} (hV : V.1.stackTraces = false) {rt : Option FieldType} {J : jx_Jt} {KR : Option Value → Nat × Nat → jx_X → jx_I → jx_R → Prop} {KX : String → Nat × Nat → jx_X → jx_I → jx_R → Prop} (hS : jx_Snd V 205 rt [] false jx_c377 J KR KX) {X : jx_X} {R : jx_R} {I : jx_I} {a u : Nat} {s : YZ} {i : Int} {b : Nat × Nat} (h : LJ X R I a u s) (hi : 0 ≤ i ∧ i + 6 ≤ (V.2.2.2.2.2.2.1 : Nat)) (hn : V.2.2.2.2.2.2.1 ≤ 3072) (hb : 4 ≤ b.1 ∧ 24 ≤ b.2)
    (k : ∀ (X' : jx_X) (I' : jx_I) (R' : jx_R) (s' : YZ) (b' : Nat × Nat), LJ X' R' I' a u s' → b.1 ≤ b'.1 + 4 ∧ b.2 ≤ b'.2 + 24 → J 3162 [] [some (.ref V.2.2.2.2.2.1), some (.ref a), some (.ref (a + 147)), some (.ref u), some (jy i), none, none, none] b' X' I' R') : J 1752 [] [some (.ref V.2.2.2.2.2.1), some (.ref a), some (.ref (a + 147)), some (.ref u), some (jy i), none, none, none] b X I R := by
  have hS := jx_piece hS cs_25
  refine jy_aload_n hS rfl rfl ?_
  refine jy_aload_n hS rfl rfl ?_
  refine jy_iload hS rfl rfl ?_
  refine jy_iconst hS rfl ?_
  refine jy_iadd hS rfl ?_
  refine jy_sld hS rfl (by omega) (by omega) ?_
  refine jy_aload_n hS rfl rfl ?_
  refine jy_callS hS rfl rfl rfl (Nat.le_of_ble_eq_true rfl) (wr_25 hV (LJ_a h) h.2.2.2 (kc_25 hV (a1 := (V.2.2.2.2.2.2.2 (i + 1).toNat).toInt) h.1 h.2.2.1 (jy_rng _)) oe_i_25) (by decide) ⟨by (try dsimp only); omega, by (try dsimp only); omega⟩ (Nat.le_of_ble_eq_true rfl) ?_ (fun _ _ _ _ q => q.elim)
  rintro rv X1 I1 R1 ⟨x1, x2, hq⟩
  obtain ⟨w, s1, rfl, hC1, hg1, hf1, hs1⟩ := comb_A oe_i_25 (by decide) h.2.2.1 hq
  have hw := SO_rng hs1
  have hM1 := MI_B h.2.1 h.2.2.1 x2 hf1
  change J 1763 [jy w] _ _ _ _ _
  refine jy_istore hS rfl (Nat.le_of_ble_eq_true rfl) (L' := [some (.ref V.2.2.2.2.2.1), some (.ref a), some (.ref (a + 147)), some (.ref u), some (jy i), some (jy w), none, none]) rfl ?_
  refine jy_aload_n hS rfl rfl ?_
  refine jy_aload_n hS rfl rfl ?_
  refine jy_iload hS rfl rfl ?_
  refine jy_iconst hS rfl ?_
  refine jy_iadd hS rfl ?_
  refine jy_sld hS rfl (by omega) (by omega) ?_
  obtain ⟨Q1, QE1, hK2, m1, m2⟩ := mc_25 hV (a1 := (V.2.2.2.2.2.2.2 (i + 1).toNat).toInt) hM1 h.2.2.1 (jy_rng _)
  refine jy_callV hS rfl rfl rfl (Nat.le_of_ble_eq_true rfl) (Or.inl (MI_m hM1)) hK2 (by decide) ⟨Nat.zero_le _, Nat.zero_le _⟩ (Nat.le_of_ble_eq_true rfl) ?_ (fun _ _ _ _ q => (m2 _ _ _ q.2.2 : False).elim)
  rintro rv2 X2 I2 R2 ⟨e2, hq2⟩
  rw [e2]
  obtain ⟨eR, hf2, hM2, ht2, ⟨r, rfl⟩, hv2⟩ := comb_M ty_int hs1 (m1 _ _ _ hq2)
  rw [eR]
  have hL := LJ_2 hC1 x2 h.2.2.2 hg1 hf2 hM2
  change J 1775 [jy r] _ _ _ _ _
  refine jy_istore hS rfl (Nat.le_of_ble_eq_true rfl) (L' := [some (.ref V.2.2.2.2.2.1), some (.ref a), some (.ref (a + 147)), some (.ref u), some (jy i), some (jy w), some (jy r), none]) rfl ?_
  refine jy_aload_n hS rfl rfl ?_
  refine jy_callV hS rfl rfl rfl (Nat.le_of_ble_eq_true rfl) (Or.inl (MI_m hM2)) (cz_201 hV hM2.1 (QE := fun _ _ => False)) (by decide) ⟨Nat.zero_le _, Nat.zero_le _⟩ (Nat.le_of_ble_eq_true rfl) ?_ (fun _ _ _ _ q => q.2.2.2.elim)
  rintro rv3 X3 I3 R3 ⟨e3, e4, rfl, e5⟩
  rw [e3, e4, e5, ht2]
  change J 1781 [jy w] _ _ _ _ _
  refine jy_iload hS rfl rfl ?_
  refine jy_icmp_s hS rfl ?_
  refine jy_iload hS rfl rfl ?_
  refine jy_if_ne hS rfl (by omega) (fun h0 => ?_) (fun h0 => ?_)
  · refine jy_goto hS rfl ?_
    exact jy_join hS (k _ _ _ _ _ hL ⟨by (try dsimp only); omega, by (try dsimp only); omega⟩) rfl (jy_sub_s (jy_sub_s (jy_sub_s (jy_sub_s (jy_sub_s (jy_sub_n (jy_sub_n (jy_sub_n jy_sub_0))))))))
  · obtain ⟨hv3, hv4⟩ := hv2 h0
    have hv5 := Option.some.inj hv4
    rw [hv5]
    refine jy_aload_n hS rfl rfl ?_
    refine jy_iconst hS rfl ?_
    refine jy_lald hS rfl hL.2.2.2 (by decide) (by omega) ?_
    refine jy_iload hS rfl rfl ?_
    refine jy_i2l hS rfl rfl ?_
    refine jy_lcmp_s hS rfl hv3 ?_
    refine jy_if_0 hS rfl ?_
    refine jy_goto hS rfl ?_
    exact jy_join hS (k _ _ _ _ _ hL ⟨by (try dsimp only); omega, by (try dsimp only); omega⟩) rfl (jy_sub_s (jy_sub_s (jy_sub_s (jy_sub_s (jy_sub_s (jy_sub_n (jy_sub_n (jy_sub_n jy_sub_0))))))))
