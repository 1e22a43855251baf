/-! ===== the law, case by case: 9zy ===== -/
def cd_39 : List jx_row := [(2570, (.aload_n 1), 2571, 0, 0, 0), (2571, (.aload_n 0), 2572, 0, 0, 0), (2572, (.iload 4), 2574, 0, 0, 0), (2574, (.iconst 1), 2575, 0, 0, 0), (2575, .iadd, 2576, 0, 0, 0), (2576, .iaload, 2577, 0, 0, 0), (2577, (.aload_n 0), 2578, 0, 0, 0), (2578, (.iload 4), 2580, 0, 0, 0), (2580, (.iconst 2), 2581, 0, 0, 0), (2581, .iadd, 2582, 0, 0, 0), (2582, .iaload, 2583, 0, 0, 0), (2583, (.aload_n 0), 2584, 0, 0, 0), (2584, (.iload 4), 2586, 0, 0, 0), (2586, (.iconst 3), 2587, 0, 0, 0), (2587, .iadd, 2588, 0, 0, 0), (2588, .iaload, 2589, 0, 0, 0), (2589, (.aload_n 3), 2590, 0, 0, 0), (2590, (.invokestatic 287), 2593, 369, 5, 2), (2593, (.istore 5), 2595, 0, 0, 0), (2595, (.aload_n 2), 2596, 0, 0, 0), (2596, (.aload_n 0), 2597, 0, 0, 0), (2597, (.iload 4), 2599, 0, 0, 0), (2599, (.iconst 1), 2600, 0, 0, 0), (2600, .iadd, 2601, 0, 0, 0), (2601, .iaload, 2602, 0, 0, 0), (2602, (.aload_n 0), 2603, 0, 0, 0), (2603, (.iload 4), 2605, 0, 0, 0), (2605, (.iconst 2), 2606, 0, 0, 0), (2606, .iadd, 2607, 0, 0, 0), (2607, .iaload, 2608, 0, 0, 0), (2608, (.aload_n 0), 2609, 0, 0, 0), (2609, (.iload 4), 2611, 0, 0, 0), (2611, (.iconst 3), 2612, 0, 0, 0), (2612, .iadd, 2613, 0, 0, 0), (2613, .iaload, 2614, 0, 0, 0), (2614, (.invokevirtual 289), 2617, 273, 3, 0), (2617, (.istore 6), 2619, 0, 0, 0), (2619, (.aload_n 2), 2620, 0, 0, 0), (2620, (.invokevirtual 160), 2623, 201, 0, 0), (2623, (.iload 5), 2625, 0, 0, 0), (2625, (.if_icmp .eq 5), 2628, 2630, 0, 0), (2628, (.iconst 0), 2629, 0, 0, 0), (2629, .ireturn, 2630, 0, 0, 0), (2630, (.iload 5), 2632, 0, 0, 0), (2632, (.ifCond .ne 15), 2635, 2647, 0, 0), (2635, (.aload_n 3), 2636, 0, 0, 0), (2636, (.iconst 0), 2637, 0, 0, 0), (2637, .laload, 2638, 0, 0, 0), (2638, (.iload 6), 2640, 0, 0, 0), (2640, .i2l, 2641, 0, 0, 0), (2641, .lcmp, 2642, 0, 0, 0), (2642, (.ifCond .eq 5), 2645, 2647, 0, 0), (2645, (.iconst 0), 2646, 0, 0, 0), (2646, .ireturn, 2647, 0, 0, 0), (2647, (.goto 515), 2650, 3162, 0, 0)]
theorem cs_39 : cd_39.all (fun q => decide (jx_at jx_c377 q.1 = some q.2)) = true := by decide +kernel
theorem oe_i_39 {s : YZ} {a1 : Int} {a2 : Int} {a3 : Int} : ∀ k w, oe_39 s a1 a2 a3 = some (k, w) → (k, w) ∈ [((0 : Nat), (1 : Int)), ((2 : Nat), (2 : Int))] := by
  unfold oe_39
  exact nzw_i (by decide) (nzw_i (by decide) (fun _ _ h => by cases h))
set_option maxRecDepth 20000 in
theorem cl_39 {V : jx_V} (hV : V.1.stackTraces = false) {rt : Option FieldType} {J : jx_Jt} {KR : Option Value → Nat × Nat → jx_X → jx_I → jx_R → Prop} {KX : String → Nat × Nat → jx_X → jx_I → jx_R → Prop} (hS : jx_Snd V 205 rt [] false jx_c377 J KR KX) {X : jx_X} {R : jx_R} {I : jx_I} {a u : Nat} {s : YZ} {i : Int} {b : Nat × Nat} (h : LJ X R I a u s) (hi : 0 ≤ i ∧ i + 6 ≤ (V.2.2.2.2.2.2.1 : Nat)) (hn : V.2.2.2.2.2.2.1 ≤ 3072) (hb : 4 ≤ b.1 ∧ 24 ≤ b.2)
    (k : ∀ (X' : jx_X) (I' : jx_I) (R' : jx_R) (s' : YZ) (b' : Nat × Nat), LJ X' R' I' a u s' → b.1 ≤ b'.1 + 4 ∧ b.2 ≤ b'.2 + 24 → J 3162 [] [some (.ref V.2.2.2.2.2.1), some (.ref a), some (.ref (a + 147)), some (.ref u), some (jy i), none, none, none] b' X' I' R') : J 2570 [] [some (.ref V.2.2.2.2.2.1), some (.ref a), some (.ref (a + 147)), some (.ref u), some (jy i), none, none, none] b X I R := by
  have hS := jx_piece hS cs_39
  refine jy_aload_n hS rfl rfl ?_
  refine jy_aload_n hS rfl rfl ?_
  refine jy_iload hS rfl rfl ?_
  refine jy_iconst hS rfl ?_
  refine jy_iadd hS rfl ?_
  refine jy_sld hS rfl (by omega) (by omega) ?_
  refine jy_aload_n hS rfl rfl ?_
  refine jy_iload hS rfl rfl ?_
  refine jy_iconst hS rfl ?_
  refine jy_iadd hS rfl ?_
  refine jy_sld hS rfl (by omega) (by omega) ?_
  refine jy_aload_n hS rfl rfl ?_
  refine jy_iload hS rfl rfl ?_
  refine jy_iconst hS rfl ?_
  refine jy_iadd hS rfl ?_
  refine jy_sld hS rfl (by omega) (by omega) ?_
  refine jy_aload_n hS rfl rfl ?_
  refine jy_callS hS rfl rfl rfl (Nat.le_of_ble_eq_true rfl) (wr_39 hV (LJ_a h) h.2.2.2 (kc_39 hV (a1 := (V.2.2.2.2.2.2.2 (i + 1).toNat).toInt) (a2 := (V.2.2.2.2.2.2.2 (i + 2).toNat).toInt) (a3 := (V.2.2.2.2.2.2.2 (i + 3).toNat).toInt) h.1 h.2.2.1 (jy_rng _) (jy_rng _) (jy_rng _)) oe_i_39) (by decide) ⟨by (try dsimp only); omega, by (try dsimp only); omega⟩ (Nat.le_of_ble_eq_true rfl) ?_ (fun _ _ _ _ q => q.elim)
  rintro rv X1 I1 R1 ⟨x1, x2, hq⟩
  obtain ⟨w, s1, rfl, hC1, hg1, hf1, hs1⟩ := comb_A oe_i_39 (by decide) h.2.2.1 hq
  have hw := SO_rng hs1
  have hM1 := MI_B h.2.1 h.2.2.1 x2 hf1
  change J 2593 [jy w] _ _ _ _ _
  refine jy_istore hS rfl (Nat.le_of_ble_eq_true rfl) (L' := [some (.ref V.2.2.2.2.2.1), some (.ref a), some (.ref (a + 147)), some (.ref u), some (jy i), some (jy w), none, none]) rfl ?_
  refine jy_aload_n hS rfl rfl ?_
  refine jy_aload_n hS rfl rfl ?_
  refine jy_iload hS rfl rfl ?_
  refine jy_iconst hS rfl ?_
  refine jy_iadd hS rfl ?_
  refine jy_sld hS rfl (by omega) (by omega) ?_
  refine jy_aload_n hS rfl rfl ?_
  refine jy_iload hS rfl rfl ?_
  refine jy_iconst hS rfl ?_
  refine jy_iadd hS rfl ?_
  refine jy_sld hS rfl (by omega) (by omega) ?_
  refine jy_aload_n hS rfl rfl ?_
  refine jy_iload hS rfl rfl ?_
  refine jy_iconst hS rfl ?_
  refine jy_iadd hS rfl ?_
  refine jy_sld hS rfl (by omega) (by omega) ?_
  obtain ⟨Q1, QE1, hK2, m1, m2⟩ := mc_39 hV (a1 := (V.2.2.2.2.2.2.2 (i + 1).toNat).toInt) (a2 := (V.2.2.2.2.2.2.2 (i + 2).toNat).toInt) (a3 := (V.2.2.2.2.2.2.2 (i + 3).toNat).toInt) hM1 h.2.2.1 (jy_rng _) (jy_rng _) (jy_rng _)
  refine jy_callV hS rfl rfl rfl (Nat.le_of_ble_eq_true rfl) (Or.inl (MI_m hM1)) hK2 (by decide) ⟨Nat.zero_le _, Nat.zero_le _⟩ (Nat.le_of_ble_eq_true rfl) ?_ (fun _ _ _ _ q => (m2 _ _ _ q.2.2 : False).elim)
  rintro rv2 X2 I2 R2 ⟨e2, hq2⟩
  rw [e2]
  obtain ⟨eR, hf2, hM2, ht2, ⟨r, rfl⟩, hv2⟩ := comb_M ty_int hs1 (m1 _ _ _ hq2)
  rw [eR]
  have hL := LJ_2 hC1 x2 h.2.2.2 hg1 hf2 hM2
  change J 2617 [jy r] _ _ _ _ _
  refine jy_istore hS rfl (Nat.le_of_ble_eq_true rfl) (L' := [some (.ref V.2.2.2.2.2.1), some (.ref a), some (.ref (a + 147)), some (.ref u), some (jy i), some (jy w), some (jy r), none]) rfl ?_
  refine jy_aload_n hS rfl rfl ?_
  refine jy_callV hS rfl rfl rfl (Nat.le_of_ble_eq_true rfl) (Or.inl (MI_m hM2)) (cz_201 hV hM2.1 (QE := fun _ _ => False)) (by decide) ⟨Nat.zero_le _, Nat.zero_le _⟩ (Nat.le_of_ble_eq_true rfl) ?_ (fun _ _ _ _ q => q.2.2.2.elim)
  rintro rv3 X3 I3 R3 ⟨e3, e4, rfl, e5⟩
  rw [e3, e4, e5, ht2]
  change J 2623 [jy w] _ _ _ _ _
  refine jy_iload hS rfl rfl ?_
  refine jy_icmp_s hS rfl ?_
  refine jy_iload hS rfl rfl ?_
  refine jy_if_ne hS rfl (by omega) (fun h0 => ?_) (fun h0 => ?_)
  · refine jy_goto hS rfl ?_
    exact jy_join hS (k _ _ _ _ _ hL ⟨by (try dsimp only); omega, by (try dsimp only); omega⟩) rfl (jy_sub_s (jy_sub_s (jy_sub_s (jy_sub_s (jy_sub_s (jy_sub_n (jy_sub_n (jy_sub_n jy_sub_0))))))))
  · obtain ⟨hv3, hv4⟩ := hv2 h0
    have hv5 := Option.some.inj hv4
    rw [hv5]
    refine jy_aload_n hS rfl rfl ?_
    refine jy_iconst hS rfl ?_
    refine jy_lald hS rfl hL.2.2.2 (by decide) (by omega) ?_
    refine jy_iload hS rfl rfl ?_
    refine jy_i2l hS rfl rfl ?_
    refine jy_lcmp_s hS rfl hv3 ?_
    refine jy_if_0 hS rfl ?_
    refine jy_goto hS rfl ?_
    exact jy_join hS (k _ _ _ _ _ hL ⟨by (try dsimp only); omega, by (try dsimp only); omega⟩) rfl (jy_sub_s (jy_sub_s (jy_sub_s (jy_sub_s (jy_sub_s (jy_sub_n (jy_sub_n (jy_sub_n jy_sub_0))))))))
def cd_40 : List jx_row := [(2650, (.aload_n 1), 2651, 0, 0, 0), (2651, (.aload_n 0), 2652, 0, 0, 0), (2652, (.iload 4), 2654, 0, 0, 0), (2654, (.iconst 1), 2655, 0, 0, 0), (2655, .iadd, 2656, 0, 0, 0), (2656, .iaload, 2657, 0, 0, 0), (2657, (.aload_n 3), 2658, 0, 0, 0), (2658, (.invokestatic 290), 2661, 370, 3, 2), (2661, (.istore 5), 2663, 0, 0, 0), (2663, (.aload_n 2), 2664, 0, 0, 0), (2664, (.aload_n 0), 2665, 0, 0, 0), (2665, (.iload 4), 2667, 0, 0, 0), (2667, (.iconst 1), 2668, 0, 0, 0), (2668, .iadd, 2669, 0, 0, 0), (2669, .iaload, 2670, 0, 0, 0), (2670, (.invokevirtual 292), 2673, 270, 1, 0), (2673, (.istore 6), 2675, 0, 0, 0), (2675, (.aload_n 2), 2676, 0, 0, 0), (2676, (.invokevirtual 160), 2679, 201, 0, 0), (2679, (.iload 5), 2681, 0, 0, 0), (2681, (.if_icmp .eq 5), 2684, 2686, 0, 0), (2684, (.iconst 0), 2685, 0, 0, 0), (2685, .ireturn, 2686, 0, 0, 0), (2686, (.iload 5), 2688, 0, 0, 0), (2688, (.ifCond .ne 15), 2691, 2703, 0, 0), (2691, (.aload_n 3), 2692, 0, 0, 0), (2692, (.iconst 0), 2693, 0, 0, 0), (2693, .laload, 2694, 0, 0, 0), (2694, (.iload 6), 2696, 0, 0, 0), (2696, .i2l, 2697, 0, 0, 0), (2697, .lcmp, 2698, 0, 0, 0), (2698, (.ifCond .eq 5), 2701, 2703, 0, 0), (2701, (.iconst 0), 2702, 0, 0, 0), (2702, .ireturn, 2703, 0, 0, 0), (2703, (.goto 459), 2706, 3162, 0, 0)]
theorem cs_40 : cd_40.all (fun q => decide (jx_at jx_c377 q.1 = some q.2)) = true := by decide +kernel
theorem oe_i_40 {s : YZ} {a1 : Int} : ∀ k w, oe_40 s a1 = some (k, w) → (k, w) ∈ [((2 : Nat), (1 : Int))] := by
  unfold oe_40
  exact nzw_i (by decide) (fun _ _ h => by cases h)
set_option maxRecDepth 20000 in
theorem cl_40 {V : jx_V} (hV : V.1.stackTraces = false) {rt : Option FieldType} {J : jx_Jt} {KR : Option Value → Nat × Nat → jx_X → jx_I → jx_R → Prop} {KX : String → Nat × Nat → jx_X → jx_I → jx_R → Prop} (hS : jx_Snd V 205 rt [] false jx_c377 J KR KX) {X : jx_X} {R : jx_R} {I : jx_I} {a u : Nat} {s : YZ} {i : Int} {b : Nat × Nat} (h : LJ X R I a u s) (hi : 0 ≤ i ∧ i + 6 ≤ (V.2.2.2.2.2.2.1 : Nat)) (hn : V.2.2.2.2.2.2.1 ≤ 3072) (hb : 4 ≤ b.1 ∧ 24 ≤ b.2)
    (k : ∀ (X' : jx_X) (I' : jx_I) (R' : jx_R) (s' : YZ) (b' : Nat × Nat), LJ X' R' I' a u s' → b.1 ≤ b'.1 + 4 ∧ b.2 ≤ b'.2 + 24 → J 3162 [] [some (.ref V.2.2.2.2.2.1), some (.ref a), some (.ref (a + 147)), some (.ref u), some (jy i), none, none, none] b' X' I' R') : J 2650 [] [some (.ref V.2.2.2.2.2.1), some (.ref a), some (.ref (a + 147)), some (.ref u), some (jy i), none, none, none] b X I R := by
  have hS := jx_piece hS cs_40
  refine jy_aload_n hS rfl rfl ?_
  refine jy_aload_n hS rfl rfl ?_
  refine jy_iload hS rfl rfl ?_
  refine jy_iconst hS rfl ?_
  refine jy_iadd hS rfl ?_
  refine jy_sld hS rfl (by omega) (by omega) ?_
  refine jy_aload_n hS rfl rfl ?_
  refine jy_callS hS rfl rfl rfl (Nat.le_of_ble_eq_true rfl) (wr_40 hV (LJ_a h) h.2.2.2 (kc_40 hV (a1 := (V.2.2.2.2.2.2.2 (i + 1).toNat).toInt) h.1 h.2.2.1 (jy_rng _)) oe_i_40) (by decide) ⟨by (try dsimp only); omega, by (try dsimp only); omega⟩ (Nat.le_of_ble_eq_true rfl) ?_ (fun _ _ _ _ q => q.elim)
  rintro rv X1 I1 R1 ⟨x1, x2, hq⟩
  obtain ⟨w, s1, rfl, hC1, hg1, hf1, hs1⟩ := comb_A oe_i_40 (by decide) h.2.2.1 hq
  have hw := SO_rng hs1
  have hM1 := MI_B h.2.1 h.2.2.1 x2 hf1
  change J 2661 [jy w] _ _ _ _ _
  refine jy_istore hS rfl (Nat.le_of_ble_eq_true rfl) (L' := [some (.ref V.2.2.2.2.2.1), some (.ref a), some (.ref (a + 147)), some (.ref u), some (jy i), some (jy w), none, none]) rfl ?_
  refine jy_aload_n hS rfl rfl ?_
  refine jy_aload_n hS rfl rfl ?_
  refine jy_iload hS rfl rfl ?_
  refine jy_iconst hS rfl ?_
  refine jy_iadd hS rfl ?_
  refine jy_sld hS rfl (by omega) (by omega) ?_
  obtain ⟨Q1, QE1, hK2, m1, m2⟩ := mc_40 hV (a1 := (V.2.2.2.2.2.2.2 (i + 1).toNat).toInt) hM1 h.2.2.1 (jy_rng _)
  refine jy_callV hS rfl rfl rfl (Nat.le_of_ble_eq_true rfl) (Or.inl (MI_m hM1)) hK2 (by decide) ⟨Nat.zero_le _, Nat.zero_le _⟩ (Nat.le_of_ble_eq_true rfl) ?_ (fun _ _ _ _ q => (m2 _ _ _ q.2.2 : False).elim)
  rintro rv2 X2 I2 R2 ⟨e2, hq2⟩
  rw [e2]
  obtain ⟨eR, hf2, hM2, ht2, ⟨r, rfl⟩, hv2⟩ := comb_M ty_int hs1 (m1 _ _ _ hq2)
  rw [eR]
  have hL := LJ_2 hC1 x2 h.2.2.2 hg1 hf2 hM2
  change J 2673 [jy r] _ _ _ _ _
  refine jy_istore hS rfl (Nat.le_of_ble_eq_true rfl) (L' := [some (.ref V.2.2.2.2.2.1), some (.ref a), some (.ref (a + 147)), some (.ref u), some (jy i), some (jy w), some (jy r), none]) rfl ?_
  refine jy_aload_n hS rfl rfl ?_
  refine jy_callV hS rfl rfl rfl (Nat.le_of_ble_eq_true rfl) (Or.inl (MI_m hM2)) (cz_201 hV hM2.1 (QE := fun _ _ => False)) (by decide) ⟨Nat.zero_le _, Nat.zero_le _⟩ (Nat.le_of_ble_eq_true rfl) ?_ (fun _ _ _ _ q => q.2.2.2.elim)
  rintro rv3 X3 I3 R3 ⟨e3, e4, rfl, e5⟩
  rw [e3, e4, e5, ht2]
  change J 2679 [jy w] _ _ _ _ _
  refine jy_iload hS rfl rfl ?_
  refine jy_icmp_s hS rfl ?_
  refine jy_iload hS rfl rfl ?_
  refine jy_if_ne hS rfl (by omega) (fun h0 => ?_) (fun h0 => ?_)
  · refine jy_goto hS rfl ?_
    exact jy_join hS (k _ _ _ _ _ hL ⟨by (try dsimp only); omega, by (try dsimp only); omega⟩) rfl (jy_sub_s (jy_sub_s (jy_sub_s (jy_sub_s (jy_sub_s (jy_sub_n (jy_sub_n (jy_sub_n jy_sub_0))))))))
  · obtain ⟨hv3, hv4⟩ := hv2 h0
    have hv5 := Option.some.inj hv4
    rw [hv5]
    refine jy_aload_n hS rfl rfl ?_
    refine jy_iconst hS rfl ?_
    refine jy_lald hS rfl hL.2.2.2 (by decide) (by omega) ?_
    refine jy_iload hS rfl rfl ?_
    refine jy_i2l hS rfl rfl ?_
    refine jy_lcmp_s hS rfl hv3 ?_
    refine jy_if_0 hS rfl ?_
    refine jy_goto hS rfl ?_
    exact jy_join hS (k _ _ _ _ _ hL ⟨by (try dsimp only); omega, by (try dsimp only); omega⟩) rfl (jy_sub_s (jy_sub_s (jy_sub_s (jy_sub_s (jy_sub_s (jy_sub_n (jy_sub_n (jy_sub_n jy_sub_0))))))))
def cd_41 : List jx_row := [(2706, (.aload_n 1), 2707, 0, 0, 0), (2707, (.aload_n 0), 2708, 0, 0, 0), (2708, (.iload 4), 2710, 0, 0, 0), (2710, (.iconst 1), 2711, 0, 0, 0), (2711, .iadd, 2712, 0, 0, 0), (2712, .iaload, 2713, 0, 0, 0), (2713, (.aload_n 0), 2714, 0, 0, 0), (2714, (.iload 4), 2716, 0, 0, 0), (2716, (.iconst 2), 2717, 0, 0, 0), (2717, .iadd, 2718, 0, 0, 0), (2718, .iaload, 2719, 0, 0, 0), (2719, (.aload_n 3), 2720, 0, 0, 0), (2720, (.invokestatic 293), 2723, 371, 4, 2), (2723, (.istore 5), 2725, 0, 0, 0), (2725, (.aload_n 2), 2726, 0, 0, 0), (2726, (.aload_n 0), 2727, 0, 0, 0), (2727, (.iload 4), 2729, 0, 0, 0), (2729, (.iconst 1), 2730, 0, 0, 0), (2730, .iadd, 2731, 0, 0, 0), (2731, .iaload, 2732, 0, 0, 0), (2732, (.aload_n 0), 2733, 0, 0, 0), (2733, (.iload 4), 2735, 0, 0, 0), (2735, (.iconst 2), 2736, 0, 0, 0), (2736, .iadd, 2737, 0, 0, 0), (2737, .iaload, 2738, 0, 0, 0), (2738, (.invokevirtual 295), 2741, 295, 2, 0), (2741, (.istore 6), 2743, 0, 0, 0), (2743, (.aload_n 2), 2744, 0, 0, 0), (2744, (.invokevirtual 160), 2747, 201, 0, 0), (2747, (.iload 5), 2749, 0, 0, 0), (2749, (.if_icmp .eq 5), 2752, 2754, 0, 0), (2752, (.iconst 0), 2753, 0, 0, 0), (2753, .ireturn, 2754, 0, 0, 0), (2754, (.iload 5), 2756, 0, 0, 0), (2756, (.ifCond .ne 15), 2759, 2771, 0, 0), (2759, (.aload_n 3), 2760, 0, 0, 0), (2760, (.iconst 0), 2761, 0, 0, 0), (2761, .laload, 2762, 0, 0, 0), (2762, (.iload 6), 2764, 0, 0, 0), (2764, .i2l, 2765, 0, 0, 0), (2765, .lcmp, 2766, 0, 0, 0), (2766, (.ifCond .eq 5), 2769, 2771, 0, 0), (2769, (.iconst 0), 2770, 0, 0, 0), (2770, .ireturn, 2771, 0, 0, 0), (2771, (.goto 391), 2774, 3162, 0, 0)]
theorem cs_41 : cd_41.all (fun q => decide (jx_at jx_c377 q.1 = some q.2)) = true := by decide +kernel
theorem oe_i_41 {s : YZ} {a1 : Int} {a2 : Int} : ∀ k w, oe_41 s a1 a2 = some (k, w) → (k, w) ∈ [((0 : Nat), (1 : Int)), ((1 : Nat), (2 : Int)), ((3 : Nat), (3 : Int))] := by
  unfold oe_41
  exact nzw_i (by decide) (nzw_i (by decide) (nzw_i (by decide) (fun _ _ h => by cases h)))
set_option maxRecDepth 20000 in
theorem cl_41 {V : jx_V} (hV : V.1.stackTraces = false) {rt : Option FieldType} {J : jx_Jt} {KR : Option Value → Nat × Nat → jx_X → jx_I → jx_R → Prop} {KX : String → Nat × Nat → jx_X → jx_I → jx_R → Prop} (hS : jx_Snd V 205 rt [] false jx_c377 J KR KX) {X : jx_X} {R : jx_R} {I : jx_I} {a u : Nat} {s : YZ} {i : Int} {b : Nat × Nat} (h : LJ X R I a u s) (hi : 0 ≤ i ∧ i + 6 ≤ (V.2.2.2.2.2.2.1 : Nat)) (hn : V.2.2.2.2.2.2.1 ≤ 3072) (hb : 4 ≤ b.1 ∧ 24 ≤ b.2)
    (k : ∀ (X' : jx_X) (I' : jx_I) (R' : jx_R) (s' : YZ) (b' : Nat × Nat), LJ X' R' I' a u s' → b.1 ≤ b'.1 + 4 ∧ b.2 ≤ b'.2 + 24 → J 3162 [] [some (.ref V.2.2.2.2.2.1), some (.ref a), some (.ref (a + 147)), some (.ref u), some (jy i), none, none, none] b' X' I' R') : J 2706 [] [some (.ref V.2.2.2.2.2.1), some (.ref a), some (.ref (a + 147)), some (.ref u), some (jy i), none, none, none] b X I R := by
  have hS := jx_piece hS cs_41
  refine jy_aload_n hS rfl rfl ?_
  refine jy_aload_n hS rfl rfl ?_
  refine jy_iload hS rfl rfl ?_
  refine jy_iconst hS rfl ?_
  refine jy_iadd hS rfl ?_
  refine jy_sld hS rfl (by omega) (by omega) ?_
  refine jy_aload_n hS rfl rfl ?_
  refine jy_iload hS rfl rfl ?_
  refine jy_iconst hS rfl ?_
  refine jy_iadd hS rfl ?_
  refine jy_sld hS rfl (by omega) (by omega) ?_
  refine jy_aload_n hS rfl rfl ?_
  refine jy_callS hS rfl rfl rfl (Nat.le_of_ble_eq_true rfl) (wr_41 hV (LJ_a h) h.2.2.2 (kc_41 hV (a1 := (V.2.2.2.2.2.2.2 (i + 1).toNat).toInt) (a2 := (V.2.2.2.2.2.2.2 (i + 2).toNat).toInt) h.1 h.2.2.1 (jy_rng _) (jy_rng _)) oe_i_41) (by decide) ⟨by (try dsimp only); omega, by (try dsimp only); omega⟩ (Nat.le_of_ble_eq_true rfl) ?_ (fun _ _ _ _ q => q.elim)
  rintro rv X1 I1 R1 ⟨x1, x2, hq⟩
  obtain ⟨w, s1, rfl, hC1, hg1, hf1, hs1⟩ := comb_A oe_i_41 (by decide) h.2.2.1 hq
  have hw := SO_rng hs1
  have hM1 := MI_B h.2.1 h.2.2.1 x2 hf1
  change J 2723 [jy w] _ _ _ _ _
  refine jy_istore hS rfl (Nat.le_of_ble_eq_true rfl) (L' := [some (.ref V.2.2.2.2.2.1), some (.ref a), some (.ref (a + 147)), some (.ref u), some (jy i), some (jy w), none, none]) rfl ?_
  refine jy_aload_n hS rfl rfl ?_
  refine jy_aload_n hS rfl rfl ?_
  refine jy_iload hS rfl rfl ?_
  refine jy_iconst hS rfl ?_
  refine jy_iadd hS rfl ?_
  refine jy_sld hS rfl (by omega) (by omega) ?_
  refine jy_aload_n hS rfl rfl ?_
  refine jy_iload hS rfl rfl ?_
  refine jy_iconst hS rfl ?_
  refine jy_iadd hS rfl ?_
  refine jy_sld hS rfl (by omega) (by omega) ?_
  obtain ⟨Q1, QE1, hK2, m1, m2⟩ := mc_41 hV (a1 := (V.2.2.2.2.2.2.2 (i + 1).toNat).toInt) (a2 := (V.2.2.2.2.2.2.2 (i + 2).toNat).toInt) hM1 h.2.2.1 (jy_rng _) (jy_rng _)
  refine jy_callV hS rfl rfl rfl (Nat.le_of_ble_eq_true rfl) (Or.inl (MI_m hM1)) hK2 (by decide) ⟨Nat.zero_le _, Nat.zero_le _⟩ (Nat.le_of_ble_eq_true rfl) ?_ (fun _ _ _ _ q => (m2 _ _ _ q.2.2 : False).elim)
  rintro rv2 X2 I2 R2 ⟨e2, hq2⟩
  rw [e2]
  obtain ⟨eR, hf2, hM2, ht2, ⟨r, rfl⟩, hv2⟩ := comb_M ty_int hs1 (m1 _ _ _ hq2)
  rw [eR]
  have hL := LJ_2 hC1 x2 h.2.2.2 hg1 hf2 hM2
  change J 2741 [jy r] _ _ _ _ _
  refine jy_istore hS rfl (Nat.le_of_ble_eq_true rfl) (L' := [some (.ref V.2.2.2.2.2.1), some (.ref a), some (.ref (a + 147)), some (.ref u), some (jy i), some (jy w), some (jy r), none]) rfl ?_
  refine jy_aload_n hS rfl rfl ?_
  refine jy_callV hS rfl rfl rfl (Nat.le_of_ble_eq_true rfl) (Or.inl (MI_m hM2)) (cz_201 hV hM2.1 (QE := fun _ _ => False)) (by decide) ⟨Nat.zero_le _, Nat.zero_le _⟩ (Nat.le_of_ble_eq_true rfl) ?_ (fun _ _ _ _ q => q.2.2.2.elim)
  rintro rv3 X3 I3 R3 ⟨e3, e4, rfl, e5⟩
  rw [e3, e4, e5, ht2]
  change J 2747 [jy w] _ _ _ _ _
  refine jy_iload hS rfl rfl ?_
  refine jy_icmp_s hS rfl ?_
  refine jy_iload hS rfl rfl ?_
  refine jy_if_ne hS rfl (by omega) (fun h0 => ?_) (fun h0 => ?_)
  · refine jy_goto hS rfl ?_
    exact jy_join hS (k _ _ _ _ _ hL ⟨by (try dsimp only); omega, by (try dsimp only); omega⟩) rfl (jy_sub_s (jy_sub_s (jy_sub_s (jy_sub_s (jy_sub_s (jy_sub_n (jy_sub_n (jy_sub_n jy_sub_0))))))))
  · obtain ⟨hv3, hv4⟩ := hv2 h0
    have hv5 := Option.some.inj hv4
    rw [hv5]
    refine jy_aload_n hS rfl rfl ?_
    refine jy_iconst hS rfl ?_
    refine jy_lald hS rfl hL.2.2.2 (by decide) (by omega) ?_
    refine jy_iload hS rfl rfl ?_
    refine jy_i2l hS rfl rfl ?_
    refine jy_lcmp_s hS rfl hv3 ?_
    refine jy_if_0 hS rfl ?_
    refine jy_goto hS rfl ?_
    exact jy_join hS (k _ _ _ _ _ hL ⟨by (try dsimp only); omega, by (try dsimp only); omega⟩) rfl (jy_sub_s (jy_sub_s (jy_sub_s (jy_sub_s (jy_sub_s (jy_sub_n (jy_sub_n (jy_sub_n jy_sub_0))))))))
def cd_42 : List jx_row := [(2774, (.aload_n 1), 2775, 0, 0, 0), (2775, (.aload_n 0), 2776, 0, 0, 0), (2776, (.iload 4), 2778, 0, 0, 0), (2778, (.iconst 1), 2779, 0, 0, 0), (2779, .iadd, 2780, 0, 0, 0), (2780, .iaload, 2781, 0, 0, 0), (2781, (.aload_n 0), 2782, 0, 0, 0), (2782, (.iload 4), 2784, 0, 0, 0), (2784, (.iconst 2), 2785, 0, 0, 0), (2785, .iadd, 2786, 0, 0, 0), (2786, .iaload, 2787, 0, 0, 0), (2787, (.aload_n 3), 2788, 0, 0, 0), (2788, (.invokestatic 296), 2791, 372, 4, 2), (2791, (.istore 5), 2793, 0, 0, 0), (2793, (.aload_n 2), 2794, 0, 0, 0), (2794, (.aload_n 0), 2795, 0, 0, 0), (2795, (.iload 4), 2797, 0, 0, 0), (2797, (.iconst 1), 2798, 0, 0, 0), (2798, .iadd, 2799, 0, 0, 0), (2799, .iaload, 2800, 0, 0, 0), (2800, (.aload_n 0), 2801, 0, 0, 0), (2801, (.iload 4), 2803, 0, 0, 0), (2803, (.iconst 2), 2804, 0, 0, 0), (2804, .iadd, 2805, 0, 0, 0), (2805, .iaload, 2806, 0, 0, 0), (2806, (.invokevirtual 298), 2809, 296, 2, 0), (2809, (.istore 6), 2811, 0, 0, 0), (2811, (.aload_n 2), 2812, 0, 0, 0), (2812, (.invokevirtual 160), 2815, 201, 0, 0), (2815, (.iload 5), 2817, 0, 0, 0), (2817, (.if_icmp .eq 5), 2820, 2822, 0, 0), (2820, (.iconst 0), 2821, 0, 0, 0), (2821, .ireturn, 2822, 0, 0, 0), (2822, (.iload 5), 2824, 0, 0, 0), (2824, (.ifCond .ne 15), 2827, 2839, 0, 0), (2827, (.aload_n 3), 2828, 0, 0, 0), (2828, (.iconst 0), 2829, 0, 0, 0), (2829, .laload, 2830, 0, 0, 0), (2830, (.iload 6), 2832, 0, 0, 0), (2832, .i2l, 2833, 0, 0, 0), (2833, .lcmp, 2834, 0, 0, 0), (2834, (.ifCond .eq 5), 2837, 2839, 0, 0), (2837, (.iconst 0), 2838, 0, 0, 0), (2838, .ireturn, 2839, 0, 0, 0), (2839, (.goto 323), 2842, 3162, 0, 0)]
theorem cs_42 : cd_42.all (fun q => decide (jx_at jx_c377 q.1 = some q.2)) = true := by decide +kernel
theorem oe_i_42 {s : YZ} {a1 : Int} {a2 : Int} : ∀ k w, oe_42 s a1 a2 = some (k, w) → (k, w) ∈ [((0 : Nat), (1 : Int)), ((1 : Nat), (2 : Int)), ((3 : Nat), (3 : Int))] := by
  unfold oe_42
  exact nzw_i (by decide) (nzw_i (by decide) (nzw_i (by decide) (fun _ _ h => by cases h)))
set_option maxRecDepth 20000 in
theorem cl_42 {V : jx_V} (hV : V.1.stackTraces = false) {rt : Option FieldType} {J : jx_Jt} {KR : Option Value → Nat × Nat → jx_X → jx_I → jx_R → Prop} {KX : String → Nat × Nat → jx_X → jx_I → jx_R → Prop} (hS : jx_Snd V 205 rt [] false jx_c377 J KR KX) {X : jx_X} {R : jx_R} {I : jx_I} {a u : Nat} {s : YZ} {i : Int} {b : Nat × Nat} (h : LJ X R I a u s) (hi : 0 ≤ i ∧ i + 6 ≤ (V.2.2.2.2.2.2.1 : Nat)) (hn : V.2.2.2.2.2.2.1 ≤ 3072) (hb : 4 ≤ b.1 ∧ 24 ≤ b.2)
    (k : ∀ (X' : jx_X) (I' : jx_I) (R' : jx_R) (s' : YZ) (b' : Nat × Nat), LJ X' R' I' a u s' → b.1 ≤ b'.1 + 4 ∧ b.2 ≤ b'.2 + 24 → J 3162 [] [some (.ref V.2.2.2.2.2.1), some (.ref a), some (.ref (a + 147)), some (.ref u), some (jy i), none, none, none] b' X' I' R') : J 2774 [] [some (.ref V.2.2.2.2.2.1), some (.ref a), some (.ref (a + 147)), some (.ref u), some (jy i), none, none, none] b X I R := by
  have hS := jx_piece hS cs_42
  refine jy_aload_n hS rfl rfl ?_
  refine jy_aload_n hS rfl rfl ?_
  refine jy_iload hS rfl rfl ?_
  refine jy_iconst hS rfl ?_
  refine jy_iadd hS rfl ?_
  refine jy_sld hS rfl (by omega) (by omega) ?_
  refine jy_aload_n hS rfl rfl ?_
  refine jy_iload hS rfl rfl ?_
  refine jy_iconst hS rfl ?_
  refine jy_iadd hS rfl ?_
  refine jy_sld hS rfl (by omega) (by omega) ?_
  refine jy_aload_n hS rfl rfl ?_
  refine jy_callS hS rfl rfl rfl (Nat.le_of_ble_eq_true rfl) (wr_42 hV (LJ_a h) h.2.2.2 (kc_42 hV (a1 := (V.2.2.2.2.2.2.2 (i + 1).toNat).toInt) (a2 := (V.2.2.2.2.2.2.2 (i + 2).toNat).toInt) h.1 h.2.2.1 (jy_rng _) (jy_rng _)) oe_i_42) (by decide) ⟨by (try dsimp only); omega, by (try dsimp only); omega⟩ (Nat.le_of_ble_eq_true rfl) ?_ (fun _ _ _ _ q => q.elim)
  rintro rv X1 I1 R1 ⟨x1, x2, hq⟩
  obtain ⟨w, s1, rfl, hC1, hg1, hf1, hs1⟩ := comb_A oe_i_42 (by decide) h.2.2.1 hq
  have hw := SO_rng hs1
  have hM1 := MI_B h.2.1 h.2.2.1 x2 hf1
  change J 2791 [jy w] _ _ _ _ _
  refine jy_istore hS rfl (Nat.le_of_ble_eq_true rfl) (L' := [some (.ref V.2.2.2.2.2.1), some (.ref a), some (.ref (a + 147)), some (.ref u), some (jy i), some (jy w), none, none]) rfl ?_
  refine jy_aload_n hS rfl rfl ?_
  refine jy_aload_n hS rfl rfl ?_
  refine jy_iload hS rfl rfl ?_
  refine jy_iconst hS rfl ?_
  refine jy_iadd hS rfl ?_
  refine jy_sld hS rfl (by omega) (by omega) ?_
  refine jy_aload_n hS rfl rfl ?_
  refine jy_iload hS rfl rfl ?_
  refine jy_iconst hS rfl ?_
  refine jy_iadd hS rfl ?_
  refine jy_sld hS rfl (by omega) (by omega) ?_
  obtain ⟨Q1, QE1, hK2, m1, m2⟩ := mc_42 hV (a1 := (V.2.2.2.2.2.2.2 (i + 1).toNat).toInt) (a2 := (V.2.2.2.2.2.2.2 (i + 2).toNat).toInt) hM1 h.2.2.1 (jy_rng _) (jy_rng _)
  refine jy_callV hS rfl rfl rfl (Nat.le_of_ble_eq_true rfl) (Or.inl (MI_m hM1)) hK2 (by decide) ⟨Nat.zero_le _, Nat.zero_le _⟩ (Nat.le_of_ble_eq_true rfl) ?_ (fun _ _ _ _ q => (m2 _ _ _ q.2.2 : False).elim)
  rintro rv2 X2 I2 R2 ⟨e2, hq2⟩
  rw [e2]
  obtain ⟨eR, hf2, hM2, ht2, ⟨r, rfl⟩, hv2⟩ := comb_M ty_int hs1 (m1 _ _ _ hq2)
  rw [eR]
  have hL := LJ_2 hC1 x2 h.2.2.2 hg1 hf2 hM2
  change J 2809 [jy r] _ _ _ _ _
  refine jy_istore hS rfl (Nat.le_of_ble_eq_true rfl) (L' := [some (.ref V.2.2.2.2.2.1), some (.ref a), some (.ref (a + 147)), some (.ref u), some (jy i), some (jy w), some (jy r), none]) rfl ?_
  refine jy_aload_n hS rfl rfl ?_
  refine jy_callV hS rfl rfl rfl (Nat.le_of_ble_eq_true rfl) (Or.inl (MI_m hM2)) (cz_201 hV hM2.1 (QE := fun _ _ => False)) (by decide) ⟨Nat.zero_le _, Nat.zero_le _⟩ (Nat.le_of_ble_eq_true rfl) ?_ (fun _ _ _ _ q => q.2.2.2.elim)
  rintro rv3 X3 I3 R3 ⟨e3, e4, rfl, e5⟩
  rw [e3, e4, e5, ht2]
  change J 2815 [jy w] _ _ _ _ _
  refine jy_iload hS rfl rfl ?_
  refine jy_icmp_s hS rfl ?_
  refine jy_iload hS rfl rfl ?_
  refine jy_if_ne hS rfl (by omega) (fun h0 => ?_) (fun h0 => ?_)
  · refine jy_goto hS rfl ?_
    exact jy_join hS (k _ _ _ _ _ hL ⟨by (try dsimp only); omega, by (try dsimp only); omega⟩) rfl (jy_sub_s (jy_sub_s (jy_sub_s (jy_sub_s (jy_sub_s (jy_sub_n (jy_sub_n (jy_sub_n jy_sub_0))))))))
  · obtain ⟨hv3, hv4⟩ := hv2 h0
    have hv5 := Option.some.inj hv4
    rw [hv5]
    refine jy_aload_n hS rfl rfl ?_
    refine jy_iconst hS rfl ?_
    refine jy_lald hS rfl hL.2.2.2 (by decide) (by omega) ?_
    refine jy_iload hS rfl rfl ?_
    refine jy_i2l hS rfl rfl ?_
    refine jy_lcmp_s hS rfl hv3 ?_
    refine jy_if_0 hS rfl ?_
    refine jy_goto hS rfl ?_
    exact jy_join hS (k _ _ _ _ _ hL ⟨by (try dsimp only); omega, by (try dsimp only); omega⟩) rfl (jy_sub_s (jy_sub_s (jy_sub_s (jy_sub_s (jy_sub_s (jy_sub_n (jy_sub_n (jy_sub_n jy_sub_0))))))))
def cd_43 : List jx_row := [(2842, (.aload_n 1), 2843, 0, 0, 0), (2843, (.aload_n 0), 2844, 0, 0, 0), (2844, (.iload 4), 2846, 0, 0, 0), (2846, (.iconst 1), 2847, 0, 0, 0), (2847, .iadd, 2848, 0, 0, 0), (2848, .iaload, 2849, 0, 0, 0), (2849, (.aload_n 3), 2850, 0, 0, 0), (2850, (.invokestatic 299), 2853, 373, 3, 2), (2853, (.istore 5), 2855, 0, 0, 0), (2855, (.aload_n 2), 2856, 0, 0, 0), (2856, (.aload_n 0), 2857, 0, 0, 0), (2857, (.iload 4), 2859, 0, 0, 0), (2859, (.iconst 1), 2860, 0, 0, 0), (2860, .iadd, 2861, 0, 0, 0), (2861, .iaload, 2862, 0, 0, 0), (2862, (.invokevirtual 301), 2865, 297, 1, 0), (2865, (.istore 6), 2867, 0, 0, 0), (2867, (.aload_n 2), 2868, 0, 0, 0), (2868, (.invokevirtual 160), 2871, 201, 0, 0), (2871, (.iload 5), 2873, 0, 0, 0), (2873, (.if_icmp .eq 5), 2876, 2878, 0, 0), (2876, (.iconst 0), 2877, 0, 0, 0), (2877, .ireturn, 2878, 0, 0, 0), (2878, (.iload 5), 2880, 0, 0, 0), (2880, (.ifCond .ne 15), 2883, 2895, 0, 0), (2883, (.aload_n 3), 2884, 0, 0, 0), (2884, (.iconst 0), 2885, 0, 0, 0), (2885, .laload, 2886, 0, 0, 0), (2886, (.iload 6), 2888, 0, 0, 0), (2888, .i2l, 2889, 0, 0, 0), (2889, .lcmp, 2890, 0, 0, 0), (2890, (.ifCond .eq 5), 2893, 2895, 0, 0), (2893, (.iconst 0), 2894, 0, 0, 0), (2894, .ireturn, 2895, 0, 0, 0), (2895, (.goto 267), 2898, 3162, 0, 0)]
theorem cs_43 : cd_43.all (fun q => decide (jx_at jx_c377 q.1 = some q.2)) = true := by decide +kernel
theorem oe_i_43 {s : YZ} {a1 : Int} : ∀ k w, oe_43 s a1 = some (k, w) → (k, w) ∈ [((2 : Nat), (1 : Int)), ((3 : Nat), (2 : Int))] := by
  unfold oe_43
  exact nzw_i (by decide) (nzw_i (by decide) (fun _ _ h => by cases h))
set_option maxRecDepth 20000 in
theorem cl_43 {V : jx_V} (hV : V.1.stackTraces = false) {rt : Option FieldType} {J : jx_Jt} {KR : Option Value → Nat × Nat → jx_X → jx_I → jx_R → Prop} {KX : String → Nat × Nat → jx_X → jx_I → jx_R → Prop} (hS : jx_Snd V 205 rt [] false jx_c377 J KR KX) {X : jx_X} {R : jx_R} {I : jx_I} {a u : Nat} {s : YZ} {i : Int} {b : Nat × Nat} (h : LJ X R I a u s) (hi : 0 ≤ i ∧ i + 6 ≤ (V.2.2.2.2.2.2.1 : Nat)) (hn : V.2.2.2.2.2.2.1 ≤ 3072) (hb : 4 ≤ b.1 ∧ 24 ≤ b.2)
    (k : ∀ (X' : jx_X) (I' : jx_I) (R' : jx_R) (s' : YZ) (b' : Nat × Nat), LJ X' R' I' a u s' → b.1 ≤ b'.1 + 4 ∧ b.2 ≤ b'.2 + 24 → J 3162 [] [some (.ref V.2.2.2.2.2.1), some (.ref a), some (.ref (a + 147)), some (.ref u), some (jy i), none, none, none] b' X' I' R') : J 2842 [] [some (.ref V.2.2.2.2.2.1), some (.ref a), some (.ref (a + 147)), some (.ref u), some (jy i), none, none, none] b X I R := by
  have hS := jx_piece hS cs_43
  refine jy_aload_n hS rfl rfl ?_
  refine jy_aload_n hS rfl rfl ?_
  refine jy_iload hS rfl rfl ?_
  refine jy_iconst hS rfl ?_
  refine jy_iadd hS rfl ?_
  refine jy_sld hS rfl (by omega) (by omega) ?_
  refine jy_aload_n hS rfl rfl ?_
  refine jy_callS hS rfl rfl rfl (Nat.le_of_ble_eq_true rfl) (wr_43 hV (LJ_a h) h.2.2.2 (kc_43 hV (a1 := (V.2.2.2.2.2.2.2 (i + 1).toNat).toInt) h.1 h.2.2.1 (jy_rng _)) oe_i_43) (by decide) ⟨by (try dsimp only); omega, by (try dsimp only); omega⟩ (Nat.le_of_ble_eq_true rfl) ?_ (fun _ _ _ _ q => q.elim)
  rintro rv X1 I1 R1 ⟨x1, x2, hq⟩
  obtain ⟨w, s1, rfl, hC1, hg1, hf1, hs1⟩ := comb_A oe_i_43 (by decide) h.2.2.1 hq
  have hw := SO_rng hs1
  have hM1 := MI_B h.2.1 h.2.2.1 x2 hf1
  change J 2853 [jy w] _ _ _ _ _
  refine jy_istore hS rfl (Nat.le_of_ble_eq_true rfl) (L' := [some (.ref V.2.2.2.2.2.1), some (.ref a), some (.ref (a + 147)), some (.ref u), some (jy i), some (jy w), none, none]) rfl ?_
  refine jy_aload_n hS rfl rfl ?_
  refine jy_aload_n hS rfl rfl ?_
  refine jy_iload hS rfl rfl ?_
  refine jy_iconst hS rfl ?_
  refine jy_iadd hS rfl ?_
  refine jy_sld hS rfl (by omega) (by omega) ?_
  obtain ⟨Q1, QE1, hK2, m1, m2⟩ := mc_43 hV (a1 := (V.2.2.2.2.2.2.2 (i + 1).toNat).toInt) hM1 h.2.2.1 (jy_rng _)
  refine jy_callV hS rfl rfl rfl (Nat.le_of_ble_eq_true rfl) (Or.inl (MI_m hM1)) hK2 (by decide) ⟨Nat.zero_le _, Nat.zero_le _⟩ (Nat.le_of_ble_eq_true rfl) ?_ (fun _ _ _ _ q => (m2 _ _ _ q.2.2 : False).elim)
  rintro rv2 X2 I2 R2 ⟨e2, hq2⟩
  rw [e2]
  obtain ⟨eR, hf2, hM2, ht2, ⟨r, rfl⟩, hv2⟩ := comb_M ty_int hs1 (m1 _ _ _ hq2)
  rw [eR]
  have hL := LJ_2 hC1 x2 h.2.2.2 hg1 hf2 hM2
  change J 2865 [jy r] _ _ _ _ _
  refine jy_istore hS rfl (Nat.le_of_ble_eq_true rfl) (L' := [some (.ref V.2.2.2.2.2.1), some (.ref a), some (.ref (a + 147)), some (.ref u), some (jy i), some (jy w), some (jy r), none]) rfl ?_
  refine jy_aload_n hS rfl rfl ?_
  refine jy_callV hS rfl rfl rfl (Nat.le_of_ble_eq_true rfl) (Or.inl (MI_m hM2)) (cz_201 hV hM2.1 (QE := fun _ _ => False)) (by decide) ⟨Nat.zero_le _, Nat.zero_le _⟩ (Nat.le_of_ble_eq_true rfl) ?_ (fun _ _ _ _ q => q.2.2.2.elim)
  rintro rv3 X3 I3 R3 ⟨e3, e4, rfl, e5⟩
  rw [e3, e4, e5, ht2]
  change J 2871 [jy w] _ _ _ _ _
  refine jy_iload hS rfl rfl ?_
  refine jy_icmp_s hS rfl ?_
  refine jy_iload hS rfl rfl ?_
  refine jy_if_ne hS rfl (by omega) (fun h0 => ?_) (fun h0 => ?_)
  · refine jy_goto hS rfl ?_
    exact jy_join hS (k _ _ _ _ _ hL ⟨by (try dsimp only); omega, by (try dsimp only); omega⟩) rfl (jy_sub_s (jy_sub_s (jy_sub_s (jy_sub_s (jy_sub_s (jy_sub_n (jy_sub_n (jy_sub_n jy_sub_0))))))))
  · obtain ⟨hv3, hv4⟩ := hv2 h0
    have hv5 := Option.some.inj hv4
    rw [hv5]
    refine jy_aload_n hS rfl rfl ?_
    refine jy_iconst hS rfl ?_
    refine jy_lald hS rfl hL.2.2.2 (by decide) (by omega) ?_
    refine jy_iload hS rfl rfl ?_
    refine jy_i2l hS rfl rfl ?_
    refine jy_lcmp_s hS rfl hv3 ?_
    refine jy_if_0 hS rfl ?_
    refine jy_goto hS rfl ?_
    exact jy_join hS (k _ _ _ _ _ hL ⟨by (try dsimp only); omega, by (try dsimp only); omega⟩) rfl (jy_sub_s (jy_sub_s (jy_sub_s (jy_sub_s (jy_sub_s (jy_sub_n (jy_sub_n (jy_sub_n jy_sub_0))))))))
def cd_44 : List jx_row := [(2898, (.aload_n 1), 2899, 0, 0, 0), (2899, (.aload_n 0), 2900, 0, 0, 0), (2900, (.iload 4), 2902, 0, 0, 0), (2902, (.iconst 1), 2903, 0, 0, 0), (2903, .iadd, 2904, 0, 0, 0), (2904, .iaload, 2905, 0, 0, 0), (2905, (.aload_n 0), 2906, 0, 0, 0), (2906, (.iload 4), 2908, 0, 0, 0), (2908, (.iconst 2), 2909, 0, 0, 0), (2909, .iadd, 2910, 0, 0, 0), (2910, .iaload, 2911, 0, 0, 0), (2911, (.aload_n 3), 2912, 0, 0, 0), (2912, (.invokestatic 302), 2915, 374, 4, 2), (2915, (.istore 5), 2917, 0, 0, 0), (2917, (.aload_n 2), 2918, 0, 0, 0), (2918, (.aload_n 0), 2919, 0, 0, 0), (2919, (.iload 4), 2921, 0, 0, 0), (2921, (.iconst 1), 2922, 0, 0, 0), (2922, .iadd, 2923, 0, 0, 0), (2923, .iaload, 2924, 0, 0, 0), (2924, (.aload_n 0), 2925, 0, 0, 0), (2925, (.iload 4), 2927, 0, 0, 0), (2927, (.iconst 2), 2928, 0, 0, 0), (2928, .iadd, 2929, 0, 0, 0), (2929, .iaload, 2930, 0, 0, 0), (2930, (.invokevirtual 304), 2933, 298, 2, 0), (2933, (.istore 6), 2935, 0, 0, 0), (2935, (.aload_n 2), 2936, 0, 0, 0), (2936, (.invokevirtual 160), 2939, 201, 0, 0), (2939, (.iload 5), 2941, 0, 0, 0), (2941, (.if_icmp .eq 5), 2944, 2946, 0, 0), (2944, (.iconst 0), 2945, 0, 0, 0), (2945, .ireturn, 2946, 0, 0, 0), (2946, (.iload 5), 2948, 0, 0, 0), (2948, (.ifCond .ne 22), 2951, 2970, 0, 0), (2951, (.aload_n 3), 2952, 0, 0, 0), (2952, (.iconst 0), 2953, 0, 0, 0), (2953, .laload, 2954, 0, 0, 0), (2954, (.iload 6), 2956, 0, 0, 0), (2956, (.ifCond .eq 7), 2959, 2963, 0, 0), (2959, (.lconst 1), 2960, 0, 0, 0), (2960, (.goto 4), 2963, 2964, 0, 0), (2963, (.lconst 0), 2964, 0, 0, 0), (2964, .lcmp, 2965, 0, 0, 0), (2965, (.ifCond .eq 5), 2968, 2970, 0, 0), (2968, (.iconst 0), 2969, 0, 0, 0), (2969, .ireturn, 2970, 0, 0, 0), (2970, (.goto 192), 2973, 3162, 0, 0)]
theorem cs_44 : cd_44.all (fun q => decide (jx_at jx_c377 q.1 = some q.2)) = true := by decide +kernel
theorem oe_i_44 {s : YZ} {a1 : Int} {a2 : Int} : ∀ k w, oe_44 s a1 a2 = some (k, w) → (k, w) ∈ [((1 : Nat), (1 : Int)), ((2 : Nat), (2 : Int))] := by
  unfold oe_44
  exact nzw_i (by decide) (nzw_i (by decide) (fun _ _ h => by cases h))
set_option maxRecDepth 20000 in
theorem cl_44 {V : jx_V} (hV : V.1.stackTraces = false) {rt : Option FieldType} {J : jx_Jt} {KR : Option Value → Nat × Nat → jx_X → jx_I → jx_R → Prop} {KX : String → Nat × Nat → jx_X → jx_I → jx_R → Prop} (hS : jx_Snd V 205 rt [] false jx_c377 J KR KX) {X : jx_X} {R : jx_R} {I : jx_I} {a u : Nat} {s : YZ} {i : Int} {b : Nat × Nat} (h : LJ X R I a u s) (hi : 0 ≤ i ∧ i + 6 ≤ (V.2.2.2.2.2.2.1 : Nat)) (hn : V.2.2.2.2.2.2.1 ≤ 3072) (hb : 4 ≤ b.1 ∧ 24 ≤ b.2)
    (k : ∀ (X' : jx_X) (I' : jx_I) (R' : jx_R) (s' : YZ) (b' : Nat × Nat), LJ X' R' I' a u s' → b.1 ≤ b'.1 + 4 ∧ b.2 ≤ b'.2 + 24 → J 3162 [] [some (.ref V.2.2.2.2.2.1), some (.ref a), some (.ref (a + 147)), some (.ref u), some (jy i), none, none, none] b' X' I' R') : J 2898 [] [some (.ref V.2.2.2.2.2.1), some (.ref a), some (.ref (a + 147)), some (.ref u), some (jy i), none, none, none] b X I R := by
  have hS := jx_piece hS cs_44
  refine jy_aload_n hS rfl rfl ?_
  refine jy_aload_n hS rfl rfl ?_
  refine jy_iload hS rfl rfl ?_
  refine jy_iconst hS rfl ?_
  refine jy_iadd hS rfl ?_
  refine jy_sld hS rfl (by omega) (by omega) ?_
  refine jy_aload_n hS rfl rfl ?_
  refine jy_iload hS rfl rfl ?_
  refine jy_iconst hS rfl ?_
  refine jy_iadd hS rfl ?_
  refine jy_sld hS rfl (by omega) (by omega) ?_
  refine jy_aload_n hS rfl rfl ?_
  refine jy_callS hS rfl rfl rfl (Nat.le_of_ble_eq_true rfl) (wr_44 hV (LJ_a h) h.2.2.2 (by rcases bN_01 (Lf (yz_l s) ((V.2.2.2.2.2.2.2 (i + 1).toNat).toInt).toNat) ((V.2.2.2.2.2.2.2 (i + 2).toNat).toInt).toNat with q | q <;> unfold ov_44 <;> rw [q] <;> decide) (kc_44 hV (a1 := (V.2.2.2.2.2.2.2 (i + 1).toNat).toInt) (a2 := (V.2.2.2.2.2.2.2 (i + 2).toNat).toInt) h.1 h.2.2.1 (jy_rng _) (jy_rng _)) oe_i_44) (by decide) ⟨by (try dsimp only); omega, by (try dsimp only); omega⟩ (Nat.le_of_ble_eq_true rfl) ?_ (fun _ _ _ _ q => q.elim)
  rintro rv X1 I1 R1 ⟨x1, x2, hq⟩
  obtain ⟨w, s1, rfl, hC1, hg1, hf1, hs1⟩ := comb_A oe_i_44 (by decide) h.2.2.1 hq
  have hw := SO_rng hs1
  have hM1 := MI_B h.2.1 h.2.2.1 x2 hf1
  change J 2915 [jy w] _ _ _ _ _
  refine jy_istore hS rfl (Nat.le_of_ble_eq_true rfl) (L' := [some (.ref V.2.2.2.2.2.1), some (.ref a), some (.ref (a + 147)), some (.ref u), some (jy i), some (jy w), none, none]) rfl ?_
  refine jy_aload_n hS rfl rfl ?_
  refine jy_aload_n hS rfl rfl ?_
  refine jy_iload hS rfl rfl ?_
  refine jy_iconst hS rfl ?_
  refine jy_iadd hS rfl ?_
  refine jy_sld hS rfl (by omega) (by omega) ?_
  refine jy_aload_n hS rfl rfl ?_
  refine jy_iload hS rfl rfl ?_
  refine jy_iconst hS rfl ?_
  refine jy_iadd hS rfl ?_
  refine jy_sld hS rfl (by omega) (by omega) ?_
  obtain ⟨Q1, QE1, hK2, m1, m2⟩ := mc_44 hV (a1 := (V.2.2.2.2.2.2.2 (i + 1).toNat).toInt) (a2 := (V.2.2.2.2.2.2.2 (i + 2).toNat).toInt) hM1 h.2.2.1 (jy_rng _) (jy_rng _)
  refine jy_callV hS rfl rfl rfl (Nat.le_of_ble_eq_true rfl) (Or.inl (MI_m hM1)) hK2 (by decide) ⟨Nat.zero_le _, Nat.zero_le _⟩ (Nat.le_of_ble_eq_true rfl) ?_ (fun _ _ _ _ q => (m2 _ _ _ q.2.2 : False).elim)
  rintro rv2 X2 I2 R2 ⟨e2, hq2⟩
  rw [e2]
  obtain ⟨eR, hf2, hM2, ht2, ⟨r, rfl⟩, hv2⟩ := comb_M ty_int hs1 (m1 _ _ _ hq2)
  rw [eR]
  have hL := LJ_2 hC1 x2 h.2.2.2 hg1 hf2 hM2
  change J 2933 [jy r] _ _ _ _ _
  refine jy_istore hS rfl (Nat.le_of_ble_eq_true rfl) (L' := [some (.ref V.2.2.2.2.2.1), some (.ref a), some (.ref (a + 147)), some (.ref u), some (jy i), some (jy w), some (jy r), none]) rfl ?_
  refine jy_aload_n hS rfl rfl ?_
  refine jy_callV hS rfl rfl rfl (Nat.le_of_ble_eq_true rfl) (Or.inl (MI_m hM2)) (cz_201 hV hM2.1 (QE := fun _ _ => False)) (by decide) ⟨Nat.zero_le _, Nat.zero_le _⟩ (Nat.le_of_ble_eq_true rfl) ?_ (fun _ _ _ _ q => q.2.2.2.elim)
  rintro rv3 X3 I3 R3 ⟨e3, e4, rfl, e5⟩
  rw [e3, e4, e5, ht2]
  change J 2939 [jy w] _ _ _ _ _
  refine jy_iload hS rfl rfl ?_
  refine jy_icmp_s hS rfl ?_
  refine jy_iload hS rfl rfl ?_
  refine jy_if_ne hS rfl (by omega) (fun h0 => ?_) (fun h0 => ?_)
  · refine jy_goto hS rfl ?_
    exact jy_join hS (k _ _ _ _ _ hL ⟨by (try dsimp only); omega, by (try dsimp only); omega⟩) rfl (jy_sub_s (jy_sub_s (jy_sub_s (jy_sub_s (jy_sub_s (jy_sub_n (jy_sub_n (jy_sub_n jy_sub_0))))))))
  · obtain ⟨hv3, hv4⟩ := hv2 h0
    have hv5 := Option.some.inj hv4
    rw [hv5]
    refine jy_aload_n hS rfl rfl ?_
    refine jy_iconst hS rfl ?_
    refine jy_lald hS rfl hL.2.2.2 (by decide) (by omega) ?_
    refine jy_iload hS rfl rfl ?_
    refine jy_if_eq hS rfl (by rcases bN_01 (Lf (yz_l s) ((V.2.2.2.2.2.2.2 (i + 1).toNat).toInt).toNat) ((V.2.2.2.2.2.2.2 (i + 2).toNat).toInt).toNat with q | q <;> unfold ov_44 <;> rw [q] <;> decide) (fun hz => ?_) (fun hz => ?_)
    · refine jy_lconst hS rfl ?_
      refine jy_lcmp_s hS rfl (hv3.trans (if_pos hz)) ?_
      refine jy_if_0 hS rfl ?_
      refine jy_goto hS rfl ?_
      exact jy_join hS (k _ _ _ _ _ hL ⟨by (try dsimp only); omega, by (try dsimp only); omega⟩) rfl (jy_sub_s (jy_sub_s (jy_sub_s (jy_sub_s (jy_sub_s (jy_sub_n (jy_sub_n (jy_sub_n jy_sub_0))))))))
    · refine jy_lconst hS rfl ?_
      refine jy_goto hS rfl ?_
      refine jy_lcmp_s hS rfl (hv3.trans (if_neg hz)) ?_
      refine jy_if_0 hS rfl ?_
      refine jy_goto hS rfl ?_
      exact jy_join hS (k _ _ _ _ _ hL ⟨by (try dsimp only); omega, by (try dsimp only); omega⟩) rfl (jy_sub_s (jy_sub_s (jy_sub_s (jy_sub_s (jy_sub_s (jy_sub_n (jy_sub_n (jy_sub_n jy_sub_0))))))))
def cd_45 : List jx_row := [(2973, (.aload_n 1), 2974, 0, 0, 0), (2974, (.invokevirtual 305), 2977, 151, 0, 0), (2977, (.aload_n 2), 2978, 0, 0, 0), (2978, (.invokevirtual 308), 2981, 299, 0, 0), (2981, (.if_icmp .eq 181), 2984, 3162, 0, 0), (2984, (.iconst 0), 2985, 0, 0, 0), (2985, .ireturn, 2986, 0, 0, 0)]
theorem cs_45 : cd_45.all (fun q => decide (jx_at jx_c377 q.1 = some q.2)) = true := by decide +kernel
set_option maxRecDepth 20000 in
theorem cl_45 {V : jx_V} (hV : V.1.stackTraces = false) {rt : Option FieldType} {J : jx_Jt} {KR : Option Value → Nat × Nat → jx_X → jx_I → jx_R → Prop} {KX : String → Nat × Nat → jx_X → jx_I → jx_R → Prop} (hS : jx_Snd V 205 rt [] false jx_c377 J KR KX) {X : jx_X} {R : jx_R} {I : jx_I} {a u : Nat} {s : YZ} {i : Int} {b : Nat × Nat} (h : LJ X R I a u s) (hi : 0 ≤ i ∧ i + 6 ≤ (V.2.2.2.2.2.2.1 : Nat)) (hn : V.2.2.2.2.2.2.1 ≤ 3072) (hb : 4 ≤ b.1 ∧ 24 ≤ b.2)
    (k : ∀ (X' : jx_X) (I' : jx_I) (R' : jx_R) (s' : YZ) (b' : Nat × Nat), LJ X' R' I' a u s' → b.1 ≤ b'.1 + 4 ∧ b.2 ≤ b'.2 + 24 → J 3162 [] [some (.ref V.2.2.2.2.2.1), some (.ref a), some (.ref (a + 147)), some (.ref u), some (jy i), none, none, none] b' X' I' R') : J 2973 [] [some (.ref V.2.2.2.2.2.1), some (.ref a), some (.ref (a + 147)), some (.ref u), some (jy i), none, none, none] b X I R := by
  have hS := jx_piece hS cs_45
  refine jy_aload_n hS rfl rfl ?_
  obtain ⟨Q0, QE0, hK, k1, k2⟩ := kc_45 hV  h.1 h.2.2.1 
  refine jy_callV hS rfl rfl rfl (Nat.le_of_ble_eq_true rfl) (Or.inl (LJ_a h)) hK (by decide) ⟨Nat.zero_le _, Nat.zero_le _⟩ (Nat.le_of_ble_eq_true rfl) ?_ (fun _ _ _ _ q => (k2 _ _ _ q.2.2 : False).elim)
  rintro rv X1 I1 R1 ⟨e1, hq⟩
  rw [e1]
  obtain ⟨rfl, hC1, hg1, hf1⟩ := KQ_n (k1 _ _ _ hq)
  have hM1 := MI_B h.2.1 h.2.2.1 (X' := X) rfl hf1
  change J 2977 [jy (ov_45 s )] _ _ _ _ _
  refine jy_aload_n hS rfl rfl ?_
  obtain ⟨Q1, QE1, hK2, m1, m2⟩ := mc_45 hV  hM1 h.2.2.1 
  refine jy_callV hS rfl rfl rfl (Nat.le_of_ble_eq_true rfl) (Or.inl (MI_m hM1)) hK2 (by decide) ⟨Nat.zero_le _, Nat.zero_le _⟩ (Nat.le_of_ble_eq_true rfl) ?_ (fun _ _ _ _ q => (m2 _ _ _ q.2.2 : False).elim)
  rintro rv2 X2 I2 R2 ⟨e2, hq2⟩
  rw [e2]
  obtain ⟨eR, hf2, hM2, rfl⟩ := MQ_n (m1 _ _ _ hq2)
  rw [eR]
  have hL := LJ_2 hC1 (X' := X) rfl h.2.2.2 hg1 hf2 hM2
  change J 2981 [jy (ov_45 s ), jy (ov_45 s )] _ _ _ _ _
  refine jy_icmp_s hS rfl ?_
  exact jy_join hS (k _ _ _ _ _ hL ⟨by (try dsimp only); omega, by (try dsimp only); omega⟩) rfl (jy_sub_s (jy_sub_s (jy_sub_s (jy_sub_s (jy_sub_s (jy_sub_n (jy_sub_n (jy_sub_n jy_sub_0))))))))
def cd_46 : List jx_row := [(2986, (.aload_n 1), 2987, 0, 0, 0), (2987, (.aload_n 3), 2988, 0, 0, 0), (2988, (.invokestatic 309), 2991, 375, 2, 2), (2991, (.istore 5), 2993, 0, 0, 0), (2993, (.aload_n 2), 2994, 0, 0, 0), (2994, (.invokevirtual 311), 2997, 300, 0, 0), (2997, (.istore 6), 2999, 0, 0, 0), (2999, (.aload_n 2), 3000, 0, 0, 0), (3000, (.invokevirtual 160), 3003, 201, 0, 0), (3003, (.iload 5), 3005, 0, 0, 0), (3005, (.if_icmp .eq 5), 3008, 3010, 0, 0), (3008, (.iconst 0), 3009, 0, 0, 0), (3009, .ireturn, 3010, 0, 0, 0), (3010, (.iload 5), 3012, 0, 0, 0), (3012, (.ifCond .ne 15), 3015, 3027, 0, 0), (3015, (.aload_n 3), 3016, 0, 0, 0), (3016, (.iconst 0), 3017, 0, 0, 0), (3017, .laload, 3018, 0, 0, 0), (3018, (.iload 6), 3020, 0, 0, 0), (3020, .i2l, 3021, 0, 0, 0), (3021, .lcmp, 3022, 0, 0, 0), (3022, (.ifCond .eq 5), 3025, 3027, 0, 0), (3025, (.iconst 0), 3026, 0, 0, 0), (3026, .ireturn, 3027, 0, 0, 0), (3027, (.goto 135), 3030, 3162, 0, 0)]
theorem cs_46 : cd_46.all (fun q => decide (jx_at jx_c377 q.1 = some q.2)) = true := by decide +kernel
theorem oe_i_46 {s : YZ}  : ∀ k w, oe_46 s  = some (k, w) → (k, w) ∈ [((3 : Nat), (1 : Int))] := by
  unfold oe_46
  exact nzw_i (by decide) (fun _ _ h => by cases h)
set_option maxRecDepth 20000 in
theorem cl_46 {V : jx_V} (hV : V.1.stackTraces = false) {rt : Option FieldType} {J : jx_Jt} {KR : Option Value → Nat × Nat → jx_X → jx_I → jx_R → Prop} {KX : String → Nat × Nat → jx_X → jx_I → jx_R → Prop} (hS : jx_Snd V 205 rt [] false jx_c377 J KR KX) {X : jx_X} {R : jx_R} {I : jx_I} {a u : Nat} {s : YZ} {i : Int} {b : Nat × Nat} (h : LJ X R I a u s) (hi : 0 ≤ i ∧ i + 6 ≤ (V.2.2.2.2.2.2.1 : Nat)) (hn : V.2.2.2.2.2.2.1 ≤ 3072) (hb : 4 ≤ b.1 ∧ 24 ≤ b.2)
    (k : ∀ (X' : jx_X) (I' : jx_I) (R' : jx_R) (s' : YZ) (b' : Nat × Nat), LJ X' R' I' a u s' → b.1 ≤ b'.1 + 4 ∧ b.2 ≤ b'.2 + 24 → J 3162 [] [some (.ref V.2.2.2.2.2.1), some (.ref a), some (.ref (a + 147)), some (.ref u), some (jy i), none, none, none] b' X' I' R') : J 2986 [] [some (.ref V.2.2.2.2.2.1), some (.ref a), some (.ref (a + 147)), some (.ref u), some (jy i), none, none, none] b X I R := by
  have hS := jx_piece hS cs_46
  refine jy_aload_n hS rfl rfl ?_
  refine jy_aload_n hS rfl rfl ?_
  refine jy_callS hS rfl rfl rfl (Nat.le_of_ble_eq_true rfl) (wr_46 hV (LJ_a h) h.2.2.2 (kc_46 hV  h.1 h.2.2.1 ) oe_i_46) (by decide) ⟨by (try dsimp only); omega, by (try dsimp only); omega⟩ (Nat.le_of_ble_eq_true rfl) ?_ (fun _ _ _ _ q => q.elim)
  rintro rv X1 I1 R1 ⟨x1, x2, hq⟩
  obtain ⟨w, s1, rfl, hC1, hg1, hf1, hs1⟩ := comb_A oe_i_46 (by decide) h.2.2.1 hq
  have hw := SO_rng hs1
  have hM1 := MI_B h.2.1 h.2.2.1 x2 hf1
  change J 2991 [jy w] _ _ _ _ _
  refine jy_istore hS rfl (Nat.le_of_ble_eq_true rfl) (L' := [some (.ref V.2.2.2.2.2.1), some (.ref a), some (.ref (a + 147)), some (.ref u), some (jy i), some (jy w), none, none]) rfl ?_
  refine jy_aload_n hS rfl rfl ?_
  obtain ⟨Q1, QE1, hK2, m1, m2⟩ := mc_46 hV  hM1 h.2.2.1 
  refine jy_callV hS rfl rfl rfl (Nat.le_of_ble_eq_true rfl) (Or.inl (MI_m hM1)) hK2 (by decide) ⟨Nat.zero_le _, Nat.zero_le _⟩ (Nat.le_of_ble_eq_true rfl) ?_ (fun _ _ _ _ q => (m2 _ _ _ q.2.2 : False).elim)
  rintro rv2 X2 I2 R2 ⟨e2, hq2⟩
  rw [e2]
  obtain ⟨eR, hf2, hM2, ht2, ⟨r, rfl⟩, hv2⟩ := comb_M ty_int hs1 (m1 _ _ _ hq2)
  rw [eR]
  have hL := LJ_2 hC1 x2 h.2.2.2 hg1 hf2 hM2
  change J 2997 [jy r] _ _ _ _ _
  refine jy_istore hS rfl (Nat.le_of_ble_eq_true rfl) (L' := [some (.ref V.2.2.2.2.2.1), some (.ref a), some (.ref (a + 147)), some (.ref u), some (jy i), some (jy w), some (jy r), none]) rfl ?_
  refine jy_aload_n hS rfl rfl ?_
  refine jy_callV hS rfl rfl rfl (Nat.le_of_ble_eq_true rfl) (Or.inl (MI_m hM2)) (cz_201 hV hM2.1 (QE := fun _ _ => False)) (by decide) ⟨Nat.zero_le _, Nat.zero_le _⟩ (Nat.le_of_ble_eq_true rfl) ?_ (fun _ _ _ _ q => q.2.2.2.elim)
  rintro rv3 X3 I3 R3 ⟨e3, e4, rfl, e5⟩
  rw [e3, e4, e5, ht2]
  change J 3003 [jy w] _ _ _ _ _
  refine jy_iload hS rfl rfl ?_
  refine jy_icmp_s hS rfl ?_
  refine jy_iload hS rfl rfl ?_
  refine jy_if_ne hS rfl (by omega) (fun h0 => ?_) (fun h0 => ?_)
  · refine jy_goto hS rfl ?_
    exact jy_join hS (k _ _ _ _ _ hL ⟨by (try dsimp only); omega, by (try dsimp only); omega⟩) rfl (jy_sub_s (jy_sub_s (jy_sub_s (jy_sub_s (jy_sub_s (jy_sub_n (jy_sub_n (jy_sub_n jy_sub_0))))))))
  · obtain ⟨hv3, hv4⟩ := hv2 h0
    have hv5 := Option.some.inj hv4
    rw [hv5]
    refine jy_aload_n hS rfl rfl ?_
    refine jy_iconst hS rfl ?_
    refine jy_lald hS rfl hL.2.2.2 (by decide) (by omega) ?_
    refine jy_iload hS rfl rfl ?_
    refine jy_i2l hS rfl rfl ?_
    refine jy_lcmp_s hS rfl hv3 ?_
    refine jy_if_0 hS rfl ?_
    refine jy_goto hS rfl ?_
    exact jy_join hS (k _ _ _ _ _ hL ⟨by (try dsimp only); omega, by (try dsimp only); omega⟩) rfl (jy_sub_s (jy_sub_s (jy_sub_s (jy_sub_s (jy_sub_s (jy_sub_n (jy_sub_n (jy_sub_n jy_sub_0))))))))
def cd_47 : List jx_row := [(3030, (.aload_n 1), 3031, 0, 0, 0), (3031, (.aload_n 0), 3032, 0, 0, 0), (3032, (.iload 4), 3034, 0, 0, 0), (3034, (.iconst 1), 3035, 0, 0, 0), (3035, .iadd, 3036, 0, 0, 0), (3036, .iaload, 3037, 0, 0, 0), (3037, (.aload_n 3), 3038, 0, 0, 0), (3038, (.invokestatic 312), 3041, 376, 3, 2), (3041, (.istore 5), 3043, 0, 0, 0), (3043, (.aload_n 2), 3044, 0, 0, 0), (3044, (.aload_n 0), 3045, 0, 0, 0), (3045, (.iload 4), 3047, 0, 0, 0), (3047, (.iconst 1), 3048, 0, 0, 0), (3048, .iadd, 3049, 0, 0, 0), (3049, .iaload, 3050, 0, 0, 0), (3050, (.invokevirtual 314), 3053, 281, 1, 0), (3053, (.istore 6), 3055, 0, 0, 0), (3055, (.aload_n 2), 3056, 0, 0, 0), (3056, (.invokevirtual 160), 3059, 201, 0, 0), (3059, (.iload 5), 3061, 0, 0, 0), (3061, (.if_icmp .eq 5), 3064, 3066, 0, 0), (3064, (.iconst 0), 3065, 0, 0, 0), (3065, .ireturn, 3066, 0, 0, 0), (3066, (.iload 5), 3068, 0, 0, 0), (3068, (.ifCond .ne 15), 3071, 3083, 0, 0), (3071, (.aload_n 3), 3072, 0, 0, 0), (3072, (.iconst 0), 3073, 0, 0, 0), (3073, .laload, 3074, 0, 0, 0), (3074, (.iload 6), 3076, 0, 0, 0), (3076, .i2l, 3077, 0, 0, 0), (3077, .lcmp, 3078, 0, 0, 0), (3078, (.ifCond .eq 5), 3081, 3083, 0, 0), (3081, (.iconst 0), 3082, 0, 0, 0), (3082, .ireturn, 3083, 0, 0, 0), (3083, (.goto 79), 3086, 3162, 0, 0)]
theorem cs_47 : cd_47.all (fun q => decide (jx_at jx_c377 q.1 = some q.2)) = true := by decide +kernel
theorem oe_i_47 {s : YZ} {a1 : Int} : ∀ k w, oe_47 s a1 = some (k, w) → (k, w) ∈ [((2 : Nat), (1 : Int)), ((3 : Nat), (2 : Int))] := by
  unfold oe_47
  exact nzw_i (by decide) (nzw_i (by decide) (fun _ _ h => by cases h))
set_option maxRecDepth 20000 in
theorem cl_47 {V : jx_V} (hV : V.1.stackTraces = false) {rt : Option FieldType} {J : jx_Jt} {KR : Option Value → Nat × Nat → jx_X → jx_I → jx_R → Prop} {KX : String → Nat × Nat → jx_X → jx_I → jx_R → Prop} (hS : jx_Snd V 205 rt [] false jx_c377 J KR KX) {X : jx_X} {R : jx_R} {I : jx_I} {a u : Nat} {s : YZ} {i : Int} {b : Nat × Nat} (h : LJ X R I a u s) (hi : 0 ≤ i ∧ i + 6 ≤ (V.2.2.2.2.2.2.1 : Nat)) (hn : V.2.2.2.2.2.2.1 ≤ 3072) (hb : 4 ≤ b.1 ∧ 24 ≤ b.2)
    (k : ∀ (X' : jx_X) (I' : jx_I) (R' : jx_R) (s' : YZ) (b' : Nat × Nat), LJ X' R' I' a u s' → b.1 ≤ b'.1 + 4 ∧ b.2 ≤ b'.2 + 24 → J 3162 [] [some (.ref V.2.2.2.2.2.1), some (.ref a), some (.ref (a + 147)), some (.ref u), some (jy i), none, none, none] b' X' I' R') : J 3030 [] [some (.ref V.2.2.2.2.2.1), some (.ref a), some (.ref (a + 147)), some (.ref u), some (jy i), none, none, none] b X I R := by
  have hS := jx_piece hS cs_47
  refine jy_aload_n hS rfl rfl ?_
  refine jy_aload_n hS rfl rfl ?_
  refine jy_iload hS rfl rfl ?_
  refine jy_iconst hS rfl ?_
  refine jy_iadd hS rfl ?_
  refine jy_sld hS rfl (by omega) (by omega) ?_
  refine jy_aload_n hS rfl rfl ?_
  refine jy_callS hS rfl rfl rfl (Nat.le_of_ble_eq_true rfl) (wr_47 hV (LJ_a h) h.2.2.2 (kc_47 hV (a1 := (V.2.2.2.2.2.2.2 (i + 1).toNat).toInt) h.1 h.2.2.1 (jy_rng _)) oe_i_47) (by decide) ⟨by (try dsimp only); omega, by (try dsimp only); omega⟩ (Nat.le_of_ble_eq_true rfl) ?_ (fun _ _ _ _ q => q.elim)
  rintro rv X1 I1 R1 ⟨x1, x2, hq⟩
  obtain ⟨w, s1, rfl, hC1, hg1, hf1, hs1⟩ := comb_A oe_i_47 (by decide) h.2.2.1 hq
  have hw := SO_rng hs1
  have hM1 := MI_B h.2.1 h.2.2.1 x2 hf1
  change J 3041 [jy w] _ _ _ _ _
  refine jy_istore hS rfl (Nat.le_of_ble_eq_true rfl) (L' := [some (.ref V.2.2.2.2.2.1), some (.ref a), some (.ref (a + 147)), some (.ref u), some (jy i), some (jy w), none, none]) rfl ?_
  refine jy_aload_n hS rfl rfl ?_
  refine jy_aload_n hS rfl rfl ?_
  refine jy_iload hS rfl rfl ?_
  refine jy_iconst hS rfl ?_
  refine jy_iadd hS rfl ?_
  refine jy_sld hS rfl (by omega) (by omega) ?_
  obtain ⟨Q1, QE1, hK2, m1, m2⟩ := mc_47 hV (a1 := (V.2.2.2.2.2.2.2 (i + 1).toNat).toInt) hM1 h.2.2.1 (jy_rng _)
  refine jy_callV hS rfl rfl rfl (Nat.le_of_ble_eq_true rfl) (Or.inl (MI_m hM1)) hK2 (by decide) ⟨Nat.zero_le _, Nat.zero_le _⟩ (Nat.le_of_ble_eq_true rfl) ?_ (fun _ _ _ _ q => (m2 _ _ _ q.2.2 : False).elim)
  rintro rv2 X2 I2 R2 ⟨e2, hq2⟩
  rw [e2]
  obtain ⟨eR, hf2, hM2, ht2, ⟨r, rfl⟩, hv2⟩ := comb_M ty_int hs1 (m1 _ _ _ hq2)
  rw [eR]
  have hL := LJ_2 hC1 x2 h.2.2.2 hg1 hf2 hM2
  change J 3053 [jy r] _ _ _ _ _
  refine jy_istore hS rfl (Nat.le_of_ble_eq_true rfl) (L' := [some (.ref V.2.2.2.2.2.1), some (.ref a), some (.ref (a + 147)), some (.ref u), some (jy i), some (jy w), some (jy r), none]) rfl ?_
  refine jy_aload_n hS rfl rfl ?_
  refine jy_callV hS rfl rfl rfl (Nat.le_of_ble_eq_true rfl) (Or.inl (MI_m hM2)) (cz_201 hV hM2.1 (QE := fun _ _ => False)) (by decide) ⟨Nat.zero_le _, Nat.zero_le _⟩ (Nat.le_of_ble_eq_true rfl) ?_ (fun _ _ _ _ q => q.2.2.2.elim)
  rintro rv3 X3 I3 R3 ⟨e3, e4, rfl, e5⟩
  rw [e3, e4, e5, ht2]
  change J 3059 [jy w] _ _ _ _ _
  refine jy_iload hS rfl rfl ?_
  refine jy_icmp_s hS rfl ?_
  refine jy_iload hS rfl rfl ?_
  refine jy_if_ne hS rfl (by omega) (fun h0 => ?_) (fun h0 => ?_)
  · refine jy_goto hS rfl ?_
    exact jy_join hS (k _ _ _ _ _ hL ⟨by (try dsimp only); omega, by (try dsimp only); omega⟩) rfl (jy_sub_s (jy_sub_s (jy_sub_s (jy_sub_s (jy_sub_s (jy_sub_n (jy_sub_n (jy_sub_n jy_sub_0))))))))
  · obtain ⟨hv3, hv4⟩ := hv2 h0
    have hv5 := Option.some.inj hv4
    rw [hv5]
    refine jy_aload_n hS rfl rfl ?_
    refine jy_iconst hS rfl ?_
    refine jy_lald hS rfl hL.2.2.2 (by decide) (by omega) ?_
    refine jy_iload hS rfl rfl ?_
    refine jy_i2l hS rfl rfl ?_
    refine jy_lcmp_s hS rfl hv3 ?_
    refine jy_if_0 hS rfl ?_
    refine jy_goto hS rfl ?_
    exact jy_join hS (k _ _ _ _ _ hL ⟨by (try dsimp only); omega, by (try dsimp only); omega⟩) rfl (jy_sub_s (jy_sub_s (jy_sub_s (jy_sub_s (jy_sub_s (jy_sub_n (jy_sub_n (jy_sub_n jy_sub_0))))))))
def cd_48 : List jx_row := [(3086, (.aload_n 1), 3087, 0, 0, 0), (3087, (.invokevirtual 315), 3090, 183, 0, 0), (3090, (.aload_n 2), 3091, 0, 0, 0), (3091, (.invokevirtual 318), 3094, 323, 0, 0), (3094, (.if_icmp .eq 68), 3097, 3162, 0, 0), (3097, (.iconst 0), 3098, 0, 0, 0), (3098, .ireturn, 3099, 0, 0, 0)]
theorem cs_48 : cd_48.all (fun q => decide (jx_at jx_c377 q.1 = some q.2)) = true := by decide +kernel
set_option maxRecDepth 20000 in
theorem cl_48 {V : jx_V} (hV : V.1.stackTraces = false) {rt : Option FieldType} {J : jx_Jt} {KR : Option Value → Nat × Nat → jx_X → jx_I → jx_R → Prop} {KX : String → Nat × Nat → jx_X → jx_I → jx_R → Prop} (hS : jx_Snd V 205 rt [] false jx_c377 J KR KX) {X : jx_X} {R : jx_R} {I : jx_I} {a u : Nat} {s : YZ} {i : Int} {b : Nat × Nat} (h : LJ X R I a u s) (hi : 0 ≤ i ∧ i + 6 ≤ (V.2.2.2.2.2.2.1 : Nat)) (hn : V.2.2.2.2.2.2.1 ≤ 3072) (hb : 4 ≤ b.1 ∧ 24 ≤ b.2)
    (k : ∀ (X' : jx_X) (I' : jx_I) (R' : jx_R) (s' : YZ) (b' : Nat × Nat), LJ X' R' I' a u s' → b.1 ≤ b'.1 + 4 ∧ b.2 ≤ b'.2 + 24 → J 3162 [] [some (.ref V.2.2.2.2.2.1), some (.ref a), some (.ref (a + 147)), some (.ref u), some (jy i), none, none, none] b' X' I' R') : J 3086 [] [some (.ref V.2.2.2.2.2.1), some (.ref a), some (.ref (a + 147)), some (.ref u), some (jy i), none, none, none] b X I R := by
  have hS := jx_piece hS cs_48
  refine jy_aload_n hS rfl rfl ?_
  obtain ⟨Q0, QE0, hK, k1, k2⟩ := kc_48 hV  h.1 h.2.2.1 
  refine jy_callV hS rfl rfl rfl (Nat.le_of_ble_eq_true rfl) (Or.inl (LJ_a h)) hK (by decide) ⟨Nat.zero_le _, Nat.zero_le _⟩ (Nat.le_of_ble_eq_true rfl) ?_ (fun _ _ _ _ q => (k2 _ _ _ q.2.2 : False).elim)
  rintro rv X1 I1 R1 ⟨e1, hq⟩
  rw [e1]
  obtain ⟨rfl, hC1, hg1, hf1⟩ := KQ_n (k1 _ _ _ hq)
  have hM1 := MI_B h.2.1 h.2.2.1 (X' := X) rfl hf1
  change J 3090 [jy (ov_48 s )] _ _ _ _ _
  refine jy_aload_n hS rfl rfl ?_
  obtain ⟨Q1, QE1, hK2, m1, m2⟩ := mc_48 hV  hM1 h.2.2.1 
  refine jy_callV hS rfl rfl rfl (Nat.le_of_ble_eq_true rfl) (Or.inl (MI_m hM1)) hK2 (by decide) ⟨Nat.zero_le _, Nat.zero_le _⟩ (Nat.le_of_ble_eq_true rfl) ?_ (fun _ _ _ _ q => (m2 _ _ _ q.2.2 : False).elim)
  rintro rv2 X2 I2 R2 ⟨e2, hq2⟩
  rw [e2]
  obtain ⟨eR, hf2, hM2, rfl⟩ := MQ_n (m1 _ _ _ hq2)
  rw [eR]
  have hL := LJ_2 hC1 (X' := X) rfl h.2.2.2 hg1 hf2 hM2
  change J 3094 [jy (ov_48 s ), jy (ov_48 s )] _ _ _ _ _
  refine jy_icmp_s hS rfl ?_
  exact jy_join hS (k _ _ _ _ _ hL ⟨by (try dsimp only); omega, by (try dsimp only); omega⟩) rfl (jy_sub_s (jy_sub_s (jy_sub_s (jy_sub_s (jy_sub_s (jy_sub_n (jy_sub_n (jy_sub_n jy_sub_0))))))))
def cd_49 : List jx_row := [(3099, (.aload_n 1), 3100, 0, 0, 0), (3100, (.invokevirtual 319), 3103, 184, 0, 0), (3103, (.aload_n 2), 3104, 0, 0, 0), (3104, (.invokevirtual 322), 3107, 324, 0, 0), (3107, (.if_icmp .eq 55), 3110, 3162, 0, 0), (3110, (.iconst 0), 3111, 0, 0, 0), (3111, .ireturn, 3112, 0, 0, 0)]
theorem cs_49 : cd_49.all (fun q => decide (jx_at jx_c377 q.1 = some q.2)) = true := by decide +kernel
set_option maxRecDepth 20000 in
theorem cl_49 {V : jx_V} (hV : V.1.stackTraces = false) {rt : Option FieldType} {J : jx_Jt} {KR : Option Value → Nat × Nat → jx_X → jx_I → jx_R → Prop} {KX : String → Nat × Nat → jx_X → jx_I → jx_R → Prop} (hS : jx_Snd V 205 rt [] false jx_c377 J KR KX) {X : jx_X} {R : jx_R} {I : jx_I} {a u : Nat} {s : YZ} {i : Int} {b : Nat × Nat} (h : LJ X R I a u s) (hi : 0 ≤ i ∧ i + 6 ≤ (V.2.2.2.2.2.2.1 : Nat)) (hn : V.2.2.2.2.2.2.1 ≤ 3072) (hb : 4 ≤ b.1 ∧ 24 ≤ b.2)
    (k : ∀ (X' : jx_X) (I' : jx_I) (R' : jx_R) (s' : YZ) (b' : Nat × Nat), LJ X' R' I' a u s' → b.1 ≤ b'.1 + 4 ∧ b.2 ≤ b'.2 + 24 → J 3162 [] [some (.ref V.2.2.2.2.2.1), some (.ref a), some (.ref (a + 147)), some (.ref u), some (jy i), none, none, none] b' X' I' R') : J 3099 [] [some (.ref V.2.2.2.2.2.1), some (.ref a), some (.ref (a + 147)), some (.ref u), some (jy i), none, none, none] b X I R := by
  have hS := jx_piece hS cs_49
  refine jy_aload_n hS rfl rfl ?_
  obtain ⟨Q0, QE0, hK, k1, k2⟩ := kc_49 hV  h.1 h.2.2.1 
  refine jy_callV hS rfl rfl rfl (Nat.le_of_ble_eq_true rfl) (Or.inl (LJ_a h)) hK (by decide) ⟨Nat.zero_le _, Nat.zero_le _⟩ (Nat.le_of_ble_eq_true rfl) ?_ (fun _ _ _ _ q => (k2 _ _ _ q.2.2 : False).elim)
  rintro rv X1 I1 R1 ⟨e1, hq⟩
  rw [e1]
  obtain ⟨rfl, hC1, hg1, hf1⟩ := KQ_n (k1 _ _ _ hq)
  have hM1 := MI_B h.2.1 h.2.2.1 (X' := X) rfl hf1
  change J 3103 [jy (ov_49 s )] _ _ _ _ _
  refine jy_aload_n hS rfl rfl ?_
  obtain ⟨Q1, QE1, hK2, m1, m2⟩ := mc_49 hV  hM1 h.2.2.1 
  refine jy_callV hS rfl rfl rfl (Nat.le_of_ble_eq_true rfl) (Or.inl (MI_m hM1)) hK2 (by decide) ⟨Nat.zero_le _, Nat.zero_le _⟩ (Nat.le_of_ble_eq_true rfl) ?_ (fun _ _ _ _ q => (m2 _ _ _ q.2.2 : False).elim)
  rintro rv2 X2 I2 R2 ⟨e2, hq2⟩
  rw [e2]
  obtain ⟨eR, hf2, hM2, rfl⟩ := MQ_n (m1 _ _ _ hq2)
  rw [eR]
  have hL := LJ_2 hC1 (X' := X) rfl h.2.2.2 hg1 hf2 hM2
  change J 3107 [jy (ov_49 s ), jy (ov_49 s )] _ _ _ _ _
  refine jy_icmp_s hS rfl ?_
  exact jy_join hS (k _ _ _ _ _ hL ⟨by (try dsimp only); omega, by (try dsimp only); omega⟩) rfl (jy_sub_s (jy_sub_s (jy_sub_s (jy_sub_s (jy_sub_s (jy_sub_n (jy_sub_n (jy_sub_n jy_sub_0))))))))
def cd_50 : List jx_row := [(3112, (.aload_n 1), 3113, 0, 0, 0), (3113, (.aload_n 0), 3114, 0, 0, 0), (3114, (.iload 4), 3116, 0, 0, 0), (3116, (.iconst 1), 3117, 0, 0, 0), (3117, .iadd, 3118, 0, 0, 0), (3118, .iaload, 3119, 0, 0, 0), (3119, (.invokevirtual 323), 3122, 185, 1, 0), (3122, (.aload_n 2), 3123, 0, 0, 0), (3123, (.aload_n 0), 3124, 0, 0, 0), (3124, (.iload 4), 3126, 0, 0, 0), (3126, (.iconst 1), 3127, 0, 0, 0), (3127, .iadd, 3128, 0, 0, 0), (3128, .iaload, 3129, 0, 0, 0), (3129, (.invokevirtual 326), 3132, 325, 1, 0), (3132, (.if_icmp .eq 30), 3135, 3162, 0, 0), (3135, (.iconst 0), 3136, 0, 0, 0), (3136, .ireturn, 3137, 0, 0, 0)]
theorem cs_50 : cd_50.all (fun q => decide (jx_at jx_c377 q.1 = some q.2)) = true := by decide +kernel
set_option maxRecDepth 20000 in
theorem cl_50 {V : jx_V} (hV : V.1.stackTraces = false) {rt : Option FieldType} {J : jx_Jt} {KR : Option Value → Nat × Nat → jx_X → jx_I → jx_R → Prop} {KX : String → Nat × Nat → jx_X → jx_I → jx_R → Prop} (hS : jx_Snd V 205 rt [] false jx_c377 J KR KX) {X : jx_X} {R : jx_R} {I : jx_I} {a u : Nat} {s : YZ} {i : Int} {b : Nat × Nat} (h : LJ X R I a u s) (hi : 0 ≤ i ∧ i + 6 ≤ (V.2.2.2.2.2.2.1 : Nat)) (hn : V.2.2.2.2.2.2.1 ≤ 3072) (hb : 4 ≤ b.1 ∧ 24 ≤ b.2)
    (k : ∀ (X' : jx_X) (I' : jx_I) (R' : jx_R) (s' : YZ) (b' : Nat × Nat), LJ X' R' I' a u s' → b.1 ≤ b'.1 + 4 ∧ b.2 ≤ b'.2 + 24 → J 3162 [] [some (.ref V.2.2.2.2.2.1), some (.ref a), some (.ref (a + 147)), some (.ref u), some (jy i), none, none, none] b' X' I' R') : J 3112 [] [some (.ref V.2.2.2.2.2.1), some (.ref a), some (.ref (a + 147)), some (.ref u), some (jy i), none, none, none] b X I R := by
  have hS := jx_piece hS cs_50
  refine jy_aload_n hS rfl rfl ?_
  refine jy_aload_n hS rfl rfl ?_
  refine jy_iload hS rfl rfl ?_
  refine jy_iconst hS rfl ?_
  refine jy_iadd hS rfl ?_
  refine jy_sld hS rfl (by omega) (by omega) ?_
  obtain ⟨Q0, QE0, hK, k1, k2⟩ := kc_50 hV (a1 := (V.2.2.2.2.2.2.2 (i + 1).toNat).toInt) h.1 h.2.2.1 (jy_rng _)
  refine jy_callV hS rfl rfl rfl (Nat.le_of_ble_eq_true rfl) (Or.inl (LJ_a h)) hK (by decide) ⟨Nat.zero_le _, Nat.zero_le _⟩ (Nat.le_of_ble_eq_true rfl) ?_ (fun _ _ _ _ q => (k2 _ _ _ q.2.2 : False).elim)
  rintro rv X1 I1 R1 ⟨e1, hq⟩
  rw [e1]
  obtain ⟨rfl, hC1, hg1, hf1⟩ := KQ_n (k1 _ _ _ hq)
  have hM1 := MI_B h.2.1 h.2.2.1 (X' := X) rfl hf1
  change J 3122 [jy (ov_50 s ((V.2.2.2.2.2.2.2 (i + 1).toNat).toInt))] _ _ _ _ _
  refine jy_aload_n hS rfl rfl ?_
  refine jy_aload_n hS rfl rfl ?_
  refine jy_iload hS rfl rfl ?_
  refine jy_iconst hS rfl ?_
  refine jy_iadd hS rfl ?_
  refine jy_sld hS rfl (by omega) (by omega) ?_
  obtain ⟨Q1, QE1, hK2, m1, m2⟩ := mc_50 hV (a1 := (V.2.2.2.2.2.2.2 (i + 1).toNat).toInt) hM1 h.2.2.1 (jy_rng _)
  refine jy_callV hS rfl rfl rfl (Nat.le_of_ble_eq_true rfl) (Or.inl (MI_m hM1)) hK2 (by decide) ⟨Nat.zero_le _, Nat.zero_le _⟩ (Nat.le_of_ble_eq_true rfl) ?_ (fun _ _ _ _ q => (m2 _ _ _ q.2.2 : False).elim)
  rintro rv2 X2 I2 R2 ⟨e2, hq2⟩
  rw [e2]
  obtain ⟨eR, hf2, hM2, rfl⟩ := MQ_n (m1 _ _ _ hq2)
  rw [eR]
  have hL := LJ_2 hC1 (X' := X) rfl h.2.2.2 hg1 hf2 hM2
  change J 3132 [jy (ov_50 s ((V.2.2.2.2.2.2.2 (i + 1).toNat).toInt)), jy (ov_50 s ((V.2.2.2.2.2.2.2 (i + 1).toNat).toInt))] _ _ _ _ _
  refine jy_icmp_s hS rfl ?_
  exact jy_join hS (k _ _ _ _ _ hL ⟨by (try dsimp only); omega, by (try dsimp only); omega⟩) rfl (jy_sub_s (jy_sub_s (jy_sub_s (jy_sub_s (jy_sub_s (jy_sub_n (jy_sub_n (jy_sub_n jy_sub_0))))))))
def cd_51 : List jx_row := [(3137, (.aload_n 1), 3138, 0, 0, 0), (3138, (.aload_n 0), 3139, 0, 0, 0), (3139, (.iload 4), 3141, 0, 0, 0), (3141, (.iconst 1), 3142, 0, 0, 0), (3142, .iadd, 3143, 0, 0, 0), (3143, .iaload, 3144, 0, 0, 0), (3144, (.invokevirtual 327), 3147, 186, 1, 0), (3147, (.aload_n 2), 3148, 0, 0, 0), (3148, (.aload_n 0), 3149, 0, 0, 0), (3149, (.iload 4), 3151, 0, 0, 0), (3151, (.iconst 1), 3152, 0, 0, 0), (3152, .iadd, 3153, 0, 0, 0), (3153, .iaload, 3154, 0, 0, 0), (3154, (.invokevirtual 330), 3157, 326, 1, 0), (3157, (.if_icmp .eq 5), 3160, 3162, 0, 0), (3160, (.iconst 0), 3161, 0, 0, 0), (3161, .ireturn, 3162, 0, 0, 0)]
theorem cs_51 : cd_51.all (fun q => decide (jx_at jx_c377 q.1 = some q.2)) = true := by decide +kernel
set_option maxRecDepth 20000 in
theorem cl_51 {V : jx_V} (hV : V.1.stackTraces = false) {rt : Option FieldType} {J : jx_Jt} {KR : Option Value → Nat × Nat → jx_X → jx_I → jx_R → Prop} {KX : String → Nat × Nat → jx_X → jx_I → jx_R → Prop} (hS : jx_Snd V 205 rt [] false jx_c377 J KR KX) {X : jx_X} {R : jx_R} {I : jx_I} {a u : Nat} {s : YZ} {i : Int} {b : Nat × Nat} (h : LJ X R I a u s) (hi : 0 ≤ i ∧ i + 6 ≤ (V.2.2.2.2.2.2.1 : Nat)) (hn : V.2.2.2.2.2.2.1 ≤ 3072) (hb : 4 ≤ b.1 ∧ 24 ≤ b.2)
    (k : ∀ (X' : jx_X) (I' : jx_I) (R' : jx_R) (s' : YZ) (b' : Nat × Nat), LJ X' R' I' a u s' → b.1 ≤ b'.1 + 4 ∧ b.2 ≤ b'.2 + 24 → J 3162 [] [some (.ref V.2.2.2.2.2.1), some (.ref a), some (.ref (a + 147)), some (.ref u), some (jy i), none, none, none] b' X' I' R') : J 3137 [] [some (.ref V.2.2.2.2.2.1), some (.ref a), some (.ref (a + 147)), some (.ref u), some (jy i), none, none, none] b X I R := by
  have hS := jx_piece hS cs_51
  refine jy_aload_n hS rfl rfl ?_
  refine jy_aload_n hS rfl rfl ?_
  refine jy_iload hS rfl rfl ?_
  refine jy_iconst hS rfl ?_
  refine jy_iadd hS rfl ?_
  refine jy_sld hS rfl (by omega) (by omega) ?_
  obtain ⟨Q0, QE0, hK, k1, k2⟩ := kc_51 hV (a1 := (V.2.2.2.2.2.2.2 (i + 1).toNat).toInt) h.1 h.2.2.1 (jy_rng _)
  refine jy_callV hS rfl rfl rfl (Nat.le_of_ble_eq_true rfl) (Or.inl (LJ_a h)) hK (by decide) ⟨Nat.zero_le _, Nat.zero_le _⟩ (Nat.le_of_ble_eq_true rfl) ?_ (fun _ _ _ _ q => (k2 _ _ _ q.2.2 : False).elim)
  rintro rv X1 I1 R1 ⟨e1, hq⟩
  rw [e1]
  obtain ⟨rfl, hC1, hg1, hf1⟩ := KQ_n (k1 _ _ _ hq)
  have hM1 := MI_B h.2.1 h.2.2.1 (X' := X) rfl hf1
  change J 3147 [jy (ov_51 s ((V.2.2.2.2.2.2.2 (i + 1).toNat).toInt))] _ _ _ _ _
  refine jy_aload_n hS rfl rfl ?_
  refine jy_aload_n hS rfl rfl ?_
  refine jy_iload hS rfl rfl ?_
  refine jy_iconst hS rfl ?_
  refine jy_iadd hS rfl ?_
  refine jy_sld hS rfl (by omega) (by omega) ?_
  obtain ⟨Q1, QE1, hK2, m1, m2⟩ := mc_51 hV (a1 := (V.2.2.2.2.2.2.2 (i + 1).toNat).toInt) hM1 h.2.2.1 (jy_rng _)
  refine jy_callV hS rfl rfl rfl (Nat.le_of_ble_eq_true rfl) (Or.inl (MI_m hM1)) hK2 (by decide) ⟨Nat.zero_le _, Nat.zero_le _⟩ (Nat.le_of_ble_eq_true rfl) ?_ (fun _ _ _ _ q => (m2 _ _ _ q.2.2 : False).elim)
  rintro rv2 X2 I2 R2 ⟨e2, hq2⟩
  rw [e2]
  obtain ⟨eR, hf2, hM2, rfl⟩ := MQ_n (m1 _ _ _ hq2)
  rw [eR]
  have hL := LJ_2 hC1 (X' := X) rfl h.2.2.2 hg1 hf2 hM2
  change J 3157 [jy (ov_51 s ((V.2.2.2.2.2.2.2 (i + 1).toNat).toInt)), jy (ov_51 s ((V.2.2.2.2.2.2.2 (i + 1).toNat).toInt))] _ _ _ _ _
  refine jy_icmp_s hS rfl ?_
  exact jy_join hS (k _ _ _ _ _ hL ⟨by (try dsimp only); omega, by (try dsimp only); omega⟩) rfl (jy_sub_s (jy_sub_s (jy_sub_s (jy_sub_s (jy_sub_s (jy_sub_n (jy_sub_n (jy_sub_n jy_sub_0))))))))
