/-! ===== the law, case by case: 9zx ===== -/
def cd_26 : List jx_row := [(1808, (.aload_n 1), 1809, 0, 0, 0), (1809, (.aload_n 0), 1810, 0, 0, 0), (1810, (.iload 4), 1812, 0, 0, 0), (1812, (.iconst 1), 1813, 0, 0, 0), (1813, .iadd, 1814, 0, 0, 0), (1814, .iaload, 1815, 0, 0, 0), (1815, (.aload_n 3), 1816, 0, 0, 0), (1816, (.invokestatic 245), 1819, 358, 3, 2), (1819, (.istore 5), 1821, 0, 0, 0), (1821, (.aload_n 2), 1822, 0, 0, 0), (1822, (.aload_n 0), 1823, 0, 0, 0), (1823, (.iload 4), 1825, 0, 0, 0), (1825, (.iconst 1), 1826, 0, 0, 0), (1826, .iadd, 1827, 0, 0, 0), (1827, .iaload, 1828, 0, 0, 0), (1828, (.invokevirtual 247), 1831, 280, 1, 0), (1831, (.istore 6), 1833, 0, 0, 0), (1833, (.aload_n 2), 1834, 0, 0, 0), (1834, (.invokevirtual 160), 1837, 201, 0, 0), (1837, (.iload 5), 1839, 0, 0, 0), (1839, (.if_icmp .eq 5), 1842, 1844, 0, 0), (1842, (.iconst 0), 1843, 0, 0, 0), (1843, .ireturn, 1844, 0, 0, 0), (1844, (.iload 5), 1846, 0, 0, 0), (1846, (.ifCond .ne 15), 1849, 1861, 0, 0), (1849, (.aload_n 3), 1850, 0, 0, 0), (1850, (.iconst 0), 1851, 0, 0, 0), (1851, .laload, 1852, 0, 0, 0), (1852, (.iload 6), 1854, 0, 0, 0), (1854, .i2l, 1855, 0, 0, 0), (1855, .lcmp, 1856, 0, 0, 0), (1856, (.ifCond .eq 5), 1859, 1861, 0, 0), (1859, (.iconst 0), 1860, 0, 0, 0), (1860, .ireturn, 1861, 0, 0, 0), (1861, (.goto 1301), 1864, 3162, 0, 0)]
theorem cs_26 : cd_26.all (fun q => decide (jx_at jx_c377 q.1 = some q.2)) = true := by decide +kernel
theorem oe_i_26 {s : YZ} {a1 : Int} : ∀ k w, oe_26 s a1 = some (k, w) → (k, w) ∈ [((2 : Nat), (1 : Int)), ((3 : Nat), (2 : Int))] := by
  unfold oe_26
  exact nzw_i (by decide) (nzw_i (by decide) (fun _ _ h => by cases h))
set_option maxRecDepth 20000 in
theorem cl_26 {V : jx_V} (hV : V.1.stackTraces = false) {rt : Option FieldType} {J : jx_Jt} {KR : Option Value → Nat × Nat → jx_X → jx_I → jx_R → Prop} {KX : String → Nat × Nat → jx_X → jx_I → jx_R → Prop} (hS : jx_Snd V 205 rt [] false jx_c377 J KR KX) {X : jx_X} {R : jx_R} {I : jx_I} {a u : Nat} {s : YZ} {i : Int} {b : Nat × Nat} (h : LJ X R I a u s) (hi : 0 ≤ i ∧ i + 6 ≤ (V.2.2.2.2.2.2.1 : Nat)) (hn : V.2.2.2.2.2.2.1 ≤ 3072) (hb : 4 ≤ b.1 ∧ 24 ≤ b.2)
    (k : ∀ (X' : jx_X) (I' : jx_I) (R' : jx_R) (s' : YZ) (b' : Nat × Nat), LJ X' R' I' a u s' → b.1 ≤ b'.1 + 4 ∧ b.2 ≤ b'.2 + 24 → J 3162 [] [some (.ref V.2.2.2.2.2.1), some (.ref a), some (.ref (a + 147)), some (.ref u), some (jy i), none, none, none] b' X' I' R') : J 1808 [] [some (.ref V.2.2.2.2.2.1), some (.ref a), some (.ref (a + 147)), some (.ref u), some (jy i), none, none, none] b X I R := by
  have hS := jx_piece hS cs_26
  refine jy_aload_n hS rfl rfl ?_
  refine jy_aload_n hS rfl rfl ?_
  refine jy_iload hS rfl rfl ?_
  refine jy_iconst hS rfl ?_
  refine jy_iadd hS rfl ?_
  refine jy_sld hS rfl (by omega) (by omega) ?_
  refine jy_aload_n hS rfl rfl ?_
  refine jy_callS hS rfl rfl rfl (Nat.le_of_ble_eq_true rfl) (wr_26 hV (LJ_a h) h.2.2.2 (kc_26 hV (a1 := (V.2.2.2.2.2.2.2 (i + 1).toNat).toInt) h.1 h.2.2.1 (jy_rng _)) oe_i_26) (by decide) ⟨by (try dsimp only); omega, by (try dsimp only); omega⟩ (Nat.le_of_ble_eq_true rfl) ?_ (fun _ _ _ _ q => q.elim)
  rintro rv X1 I1 R1 ⟨x1, x2, hq⟩
  obtain ⟨w, s1, rfl, hC1, hg1, hf1, hs1⟩ := comb_A oe_i_26 (by decide) h.2.2.1 hq
  have hw := SO_rng hs1
  have hM1 := MI_B h.2.1 h.2.2.1 x2 hf1
  change J 1819 [jy w] _ _ _ _ _
  refine jy_istore hS rfl (Nat.le_of_ble_eq_true rfl) (L' := [some (.ref V.2.2.2.2.2.1), some (.ref a), some (.ref (a + 147)), some (.ref u), some (jy i), some (jy w), none, none]) rfl ?_
  refine jy_aload_n hS rfl rfl ?_
  refine jy_aload_n hS rfl rfl ?_
  refine jy_iload hS rfl rfl ?_
  refine jy_iconst hS rfl ?_
  refine jy_iadd hS rfl ?_
  refine jy_sld hS rfl (by omega) (by omega) ?_
  obtain ⟨Q1, QE1, hK2, m1, m2⟩ := mc_26 hV (a1 := (V.2.2.2.2.2.2.2 (i + 1).toNat).toInt) hM1 h.2.2.1 (jy_rng _)
  refine jy_callV hS rfl rfl rfl (Nat.le_of_ble_eq_true rfl) (Or.inl (MI_m hM1)) hK2 (by decide) ⟨Nat.zero_le _, Nat.zero_le _⟩ (Nat.le_of_ble_eq_true rfl) ?_ (fun _ _ _ _ q => (m2 _ _ _ q.2.2 : False).elim)
  rintro rv2 X2 I2 R2 ⟨e2, hq2⟩
  rw [e2]
  obtain ⟨eR, hf2, hM2, ht2, ⟨r, rfl⟩, hv2⟩ := comb_M ty_int hs1 (m1 _ _ _ hq2)
  rw [eR]
  have hL := LJ_2 hC1 x2 h.2.2.2 hg1 hf2 hM2
  change J 1831 [jy r] _ _ _ _ _
  refine jy_istore hS rfl (Nat.le_of_ble_eq_true rfl) (L' := [some (.ref V.2.2.2.2.2.1), some (.ref a), some (.ref (a + 147)), some (.ref u), some (jy i), some (jy w), some (jy r), none]) rfl ?_
  refine jy_aload_n hS rfl rfl ?_
  refine jy_callV hS rfl rfl rfl (Nat.le_of_ble_eq_true rfl) (Or.inl (MI_m hM2)) (cz_201 hV hM2.1 (QE := fun _ _ => False)) (by decide) ⟨Nat.zero_le _, Nat.zero_le _⟩ (Nat.le_of_ble_eq_true rfl) ?_ (fun _ _ _ _ q => q.2.2.2.elim)
  rintro rv3 X3 I3 R3 ⟨e3, e4, rfl, e5⟩
  rw [e3, e4, e5, ht2]
  change J 1837 [jy w] _ _ _ _ _
  refine jy_iload hS rfl rfl ?_
  refine jy_icmp_s hS rfl ?_
  refine jy_iload hS rfl rfl ?_
  refine jy_if_ne hS rfl (by omega) (fun h0 => ?_) (fun h0 => ?_)
  · refine jy_goto hS rfl ?_
    exact jy_join hS (k _ _ _ _ _ hL ⟨by (try dsimp only); omega, by (try dsimp only); omega⟩) rfl (jy_sub_s (jy_sub_s (jy_sub_s (jy_sub_s (jy_sub_s (jy_sub_n (jy_sub_n (jy_sub_n jy_sub_0))))))))
  · obtain ⟨hv3, hv4⟩ := hv2 h0
    have hv5 := Option.some.inj hv4
    rw [hv5]
    refine jy_aload_n hS rfl rfl ?_
    refine jy_iconst hS rfl ?_
    refine jy_lald hS rfl hL.2.2.2 (by decide) (by omega) ?_
    refine jy_iload hS rfl rfl ?_
    refine jy_i2l hS rfl rfl ?_
    refine jy_lcmp_s hS rfl hv3 ?_
    refine jy_if_0 hS rfl ?_
    refine jy_goto hS rfl ?_
    exact jy_join hS (k _ _ _ _ _ hL ⟨by (try dsimp only); omega, by (try dsimp only); omega⟩) rfl (jy_sub_s (jy_sub_s (jy_sub_s (jy_sub_s (jy_sub_s (jy_sub_n (jy_sub_n (jy_sub_n jy_sub_0))))))))
def cd_27 : List jx_row := [(1864, (.aload_n 1), 1865, 0, 0, 0), (1865, (.aload_n 0), 1866, 0, 0, 0), (1866, (.iload 4), 1868, 0, 0, 0), (1868, (.iconst 1), 1869, 0, 0, 0), (1869, .iadd, 1870, 0, 0, 0), (1870, .iaload, 1871, 0, 0, 0), (1871, (.aload_n 0), 1872, 0, 0, 0), (1872, (.iload 4), 1874, 0, 0, 0), (1874, (.iconst 2), 1875, 0, 0, 0), (1875, .iadd, 1876, 0, 0, 0), (1876, .iaload, 1877, 0, 0, 0), (1877, (.aload_n 3), 1878, 0, 0, 0), (1878, (.invokestatic 248), 1881, 359, 4, 2), (1881, (.istore 5), 1883, 0, 0, 0), (1883, (.aload_n 2), 1884, 0, 0, 0), (1884, (.aload_n 0), 1885, 0, 0, 0), (1885, (.iload 4), 1887, 0, 0, 0), (1887, (.iconst 1), 1888, 0, 0, 0), (1888, .iadd, 1889, 0, 0, 0), (1889, .iaload, 1890, 0, 0, 0), (1890, (.aload_n 0), 1891, 0, 0, 0), (1891, (.iload 4), 1893, 0, 0, 0), (1893, (.iconst 2), 1894, 0, 0, 0), (1894, .iadd, 1895, 0, 0, 0), (1895, .iaload, 1896, 0, 0, 0), (1896, (.invokevirtual 250), 1899, 282, 2, 0), (1899, (.istore 6), 1901, 0, 0, 0), (1901, (.aload_n 2), 1902, 0, 0, 0), (1902, (.invokevirtual 160), 1905, 201, 0, 0), (1905, (.iload 5), 1907, 0, 0, 0), (1907, (.if_icmp .eq 5), 1910, 1912, 0, 0), (1910, (.iconst 0), 1911, 0, 0, 0), (1911, .ireturn, 1912, 0, 0, 0), (1912, (.iload 5), 1914, 0, 0, 0), (1914, (.ifCond .ne 15), 1917, 1929, 0, 0), (1917, (.aload_n 3), 1918, 0, 0, 0), (1918, (.iconst 0), 1919, 0, 0, 0), (1919, .laload, 1920, 0, 0, 0), (1920, (.iload 6), 1922, 0, 0, 0), (1922, .i2l, 1923, 0, 0, 0), (1923, .lcmp, 1924, 0, 0, 0), (1924, (.ifCond .eq 5), 1927, 1929, 0, 0), (1927, (.iconst 0), 1928, 0, 0, 0), (1928, .ireturn, 1929, 0, 0, 0), (1929, (.goto 1233), 1932, 3162, 0, 0)]
theorem cs_27 : cd_27.all (fun q => decide (jx_at jx_c377 q.1 = some q.2)) = true := by decide +kernel
theorem oe_i_27 {s : YZ} {a1 : Int} {a2 : Int} : ∀ k w, oe_27 s a1 a2 = some (k, w) → (k, w) ∈ [((2 : Nat), (1 : Int))] := by
  unfold oe_27
  exact nzw_i (by decide) (fun _ _ h => by cases h)
set_option maxRecDepth 20000 in
theorem cl_27 {V : jx_V} (hV : V.1.stackTraces = false) {rt : Option FieldType} {J : jx_Jt} {KR : Option Value → Nat × Nat → jx_X → jx_I → jx_R → Prop} {KX : String → Nat × Nat → jx_X → jx_I → jx_R → Prop} (hS : jx_Snd V 205 rt [] false jx_c377 J KR KX) {X : jx_X} {R : jx_R} {I : jx_I} {a u : Nat} {s : YZ} {i : Int} {b : Nat × Nat} (h : LJ X R I a u s) (hi : 0 ≤ i ∧ i + 6 ≤ (V.2.2.2.2.2.2.1 : Nat)) (hn : V.2.2.2.2.2.2.1 ≤ 3072) (hb : 4 ≤ b.1 ∧ 24 ≤ b.2)
    (k : ∀ (X' : jx_X) (I' : jx_I) (R' : jx_R) (s' : YZ) (b' : Nat × Nat), LJ X' R' I' a u s' → b.1 ≤ b'.1 + 4 ∧ b.2 ≤ b'.2 + 24 → J 3162 [] [some (.ref V.2.2.2.2.2.1), some (.ref a), some (.ref (a + 147)), some (.ref u), some (jy i), none, none, none] b' X' I' R') : J 1864 [] [some (.ref V.2.2.2.2.2.1), some (.ref a), some (.ref (a + 147)), some (.ref u), some (jy i), none, none, none] b X I R := by
  have hS := jx_piece hS cs_27
  refine jy_aload_n hS rfl rfl ?_
  refine jy_aload_n hS rfl rfl ?_
  refine jy_iload hS rfl rfl ?_
  refine jy_iconst hS rfl ?_
  refine jy_iadd hS rfl ?_
  refine jy_sld hS rfl (by omega) (by omega) ?_
  refine jy_aload_n hS rfl rfl ?_
  refine jy_iload hS rfl rfl ?_
  refine jy_iconst hS rfl ?_
  refine jy_iadd hS rfl ?_
  refine jy_sld hS rfl (by omega) (by omega) ?_
  refine jy_aload_n hS rfl rfl ?_
  refine jy_callS hS rfl rfl rfl (Nat.le_of_ble_eq_true rfl) (wr_27 hV (LJ_a h) h.2.2.2 (kc_27 hV (a1 := (V.2.2.2.2.2.2.2 (i + 1).toNat).toInt) (a2 := (V.2.2.2.2.2.2.2 (i + 2).toNat).toInt) h.1 h.2.2.1 (jy_rng _) (jy_rng _)) oe_i_27) (by decide) ⟨by (try dsimp only); omega, by (try dsimp only); omega⟩ (Nat.le_of_ble_eq_true rfl) ?_ (fun _ _ _ _ q => q.elim)
  rintro rv X1 I1 R1 ⟨x1, x2, hq⟩
  obtain ⟨w, s1, rfl, hC1, hg1, hf1, hs1⟩ := comb_A oe_i_27 (by decide) h.2.2.1 hq
  have hw := SO_rng hs1
  have hM1 := MI_B h.2.1 h.2.2.1 x2 hf1
  change J 1881 [jy w] _ _ _ _ _
  refine jy_istore hS rfl (Nat.le_of_ble_eq_true rfl) (L' := [some (.ref V.2.2.2.2.2.1), some (.ref a), some (.ref (a + 147)), some (.ref u), some (jy i), some (jy w), none, none]) rfl ?_
  refine jy_aload_n hS rfl rfl ?_
  refine jy_aload_n hS rfl rfl ?_
  refine jy_iload hS rfl rfl ?_
  refine jy_iconst hS rfl ?_
  refine jy_iadd hS rfl ?_
  refine jy_sld hS rfl (by omega) (by omega) ?_
  refine jy_aload_n hS rfl rfl ?_
  refine jy_iload hS rfl rfl ?_
  refine jy_iconst hS rfl ?_
  refine jy_iadd hS rfl ?_
  refine jy_sld hS rfl (by omega) (by omega) ?_
  obtain ⟨Q1, QE1, hK2, m1, m2⟩ := mc_27 hV (a1 := (V.2.2.2.2.2.2.2 (i + 1).toNat).toInt) (a2 := (V.2.2.2.2.2.2.2 (i + 2).toNat).toInt) hM1 h.2.2.1 (jy_rng _) (jy_rng _)
  refine jy_callV hS rfl rfl rfl (Nat.le_of_ble_eq_true rfl) (Or.inl (MI_m hM1)) hK2 (by decide) ⟨Nat.zero_le _, Nat.zero_le _⟩ (Nat.le_of_ble_eq_true rfl) ?_ (fun _ _ _ _ q => (m2 _ _ _ q.2.2 : False).elim)
  rintro rv2 X2 I2 R2 ⟨e2, hq2⟩
  rw [e2]
  obtain ⟨eR, hf2, hM2, ht2, ⟨r, rfl⟩, hv2⟩ := comb_M ty_int hs1 (m1 _ _ _ hq2)
  rw [eR]
  have hL := LJ_2 hC1 x2 h.2.2.2 hg1 hf2 hM2
  change J 1899 [jy r] _ _ _ _ _
  refine jy_istore hS rfl (Nat.le_of_ble_eq_true rfl) (L' := [some (.ref V.2.2.2.2.2.1), some (.ref a), some (.ref (a + 147)), some (.ref u), some (jy i), some (jy w), some (jy r), none]) rfl ?_
  refine jy_aload_n hS rfl rfl ?_
  refine jy_callV hS rfl rfl rfl (Nat.le_of_ble_eq_true rfl) (Or.inl (MI_m hM2)) (cz_201 hV hM2.1 (QE := fun _ _ => False)) (by decide) ⟨Nat.zero_le _, Nat.zero_le _⟩ (Nat.le_of_ble_eq_true rfl) ?_ (fun _ _ _ _ q => q.2.2.2.elim)
  rintro rv3 X3 I3 R3 ⟨e3, e4, rfl, e5⟩
  rw [e3, e4, e5, ht2]
  change J 1905 [jy w] _ _ _ _ _
  refine jy_iload hS rfl rfl ?_
  refine jy_icmp_s hS rfl ?_
  refine jy_iload hS rfl rfl ?_
  refine jy_if_ne hS rfl (by omega) (fun h0 => ?_) (fun h0 => ?_)
  · refine jy_goto hS rfl ?_
    exact jy_join hS (k _ _ _ _ _ hL ⟨by (try dsimp only); omega, by (try dsimp only); omega⟩) rfl (jy_sub_s (jy_sub_s (jy_sub_s (jy_sub_s (jy_sub_s (jy_sub_n (jy_sub_n (jy_sub_n jy_sub_0))))))))
  · obtain ⟨hv3, hv4⟩ := hv2 h0
    have hv5 := Option.some.inj hv4
    rw [hv5]
    refine jy_aload_n hS rfl rfl ?_
    refine jy_iconst hS rfl ?_
    refine jy_lald hS rfl hL.2.2.2 (by decide) (by omega) ?_
    refine jy_iload hS rfl rfl ?_
    refine jy_i2l hS rfl rfl ?_
    refine jy_lcmp_s hS rfl hv3 ?_
    refine jy_if_0 hS rfl ?_
    refine jy_goto hS rfl ?_
    exact jy_join hS (k _ _ _ _ _ hL ⟨by (try dsimp only); omega, by (try dsimp only); omega⟩) rfl (jy_sub_s (jy_sub_s (jy_sub_s (jy_sub_s (jy_sub_s (jy_sub_n (jy_sub_n (jy_sub_n jy_sub_0))))))))
def cd_28 : List jx_row := [(1932, (.aload_n 1), 1933, 0, 0, 0), (1933, (.invokevirtual 251), 1936, 175, 0, 0), (1936, (.aload_n 2), 1937, 0, 0, 0), (1937, (.invokevirtual 254), 1940, 283, 0, 0), (1940, (.if_icmp .eq 1222), 1943, 3162, 0, 0), (1943, (.iconst 0), 1944, 0, 0, 0), (1944, .ireturn, 1945, 0, 0, 0)]
theorem cs_28 : cd_28.all (fun q => decide (jx_at jx_c377 q.1 = some q.2)) = true := by decide +kernel
set_option maxRecDepth 20000 in
theorem cl_28 {V : jx_V} (hV : V.1.stackTraces = false) {rt : Option FieldType} {J : jx_Jt} {KR : Option Value → Nat × Nat → jx_X → jx_I → jx_R → Prop} {KX : String → Nat × Nat → jx_X → jx_I → jx_R → Prop} (hS : jx_Snd V 205 rt [] false jx_c377 J KR KX) {X : jx_X} {R : jx_R} {I : jx_I} {a u : Nat} {s : YZ} {i : Int} {b : Nat × Nat} (h : LJ X R I a u s) (hi : 0 ≤ i ∧ i + 6 ≤ (V.2.2.2.2.2.2.1 : Nat)) (hn : V.2.2.2.2.2.2.1 ≤ 3072) (hb : 4 ≤ b.1 ∧ 24 ≤ b.2)
    (k : ∀ (X' : jx_X) (I' : jx_I) (R' : jx_R) (s' : YZ) (b' : Nat × Nat), LJ X' R' I' a u s' → b.1 ≤ b'.1 + 4 ∧ b.2 ≤ b'.2 + 24 → J 3162 [] [some (.ref V.2.2.2.2.2.1), some (.ref a), some (.ref (a + 147)), some (.ref u), some (jy i), none, none, none] b' X' I' R') : J 1932 [] [some (.ref V.2.2.2.2.2.1), some (.ref a), some (.ref (a + 147)), some (.ref u), some (jy i), none, none, none] b X I R := by
  have hS := jx_piece hS cs_28
  refine jy_aload_n hS rfl rfl ?_
  obtain ⟨Q0, QE0, hK, k1, k2⟩ := kc_28 hV  h.1 h.2.2.1 
  refine jy_callV hS rfl rfl rfl (Nat.le_of_ble_eq_true rfl) (Or.inl (LJ_a h)) hK (by decide) ⟨Nat.zero_le _, Nat.zero_le _⟩ (Nat.le_of_ble_eq_true rfl) ?_ (fun _ _ _ _ q => (k2 _ _ _ q.2.2 : False).elim)
  rintro rv X1 I1 R1 ⟨e1, hq⟩
  rw [e1]
  obtain ⟨rfl, hC1, hg1, hf1⟩ := KQ_n (k1 _ _ _ hq)
  have hM1 := MI_B h.2.1 h.2.2.1 (X' := X) rfl hf1
  change J 1936 [jy (ov_28 s )] _ _ _ _ _
  refine jy_aload_n hS rfl rfl ?_
  obtain ⟨Q1, QE1, hK2, m1, m2⟩ := mc_28 hV  hM1 h.2.2.1 
  refine jy_callV hS rfl rfl rfl (Nat.le_of_ble_eq_true rfl) (Or.inl (MI_m hM1)) hK2 (by decide) ⟨Nat.zero_le _, Nat.zero_le _⟩ (Nat.le_of_ble_eq_true rfl) ?_ (fun _ _ _ _ q => (m2 _ _ _ q.2.2 : False).elim)
  rintro rv2 X2 I2 R2 ⟨e2, hq2⟩
  rw [e2]
  obtain ⟨eR, hf2, hM2, rfl⟩ := MQ_n (m1 _ _ _ hq2)
  rw [eR]
  have hL := LJ_2 hC1 (X' := X) rfl h.2.2.2 hg1 hf2 hM2
  change J 1940 [jy (ov_28 s ), jy (ov_28 s )] _ _ _ _ _
  refine jy_icmp_s hS rfl ?_
  exact jy_join hS (k _ _ _ _ _ hL ⟨by (try dsimp only); omega, by (try dsimp only); omega⟩) rfl (jy_sub_s (jy_sub_s (jy_sub_s (jy_sub_s (jy_sub_s (jy_sub_n (jy_sub_n (jy_sub_n jy_sub_0))))))))
def cd_29 : List jx_row := [(1945, (.aload_n 1), 1946, 0, 0, 0), (1946, (.aload_n 0), 1947, 0, 0, 0), (1947, (.iload 4), 1949, 0, 0, 0), (1949, (.iconst 1), 1950, 0, 0, 0), (1950, .iadd, 1951, 0, 0, 0), (1951, .iaload, 1952, 0, 0, 0), (1952, (.aload_n 3), 1953, 0, 0, 0), (1953, (.invokestatic 255), 1956, 360, 3, 2), (1956, (.istore 5), 1958, 0, 0, 0), (1958, (.aload_n 2), 1959, 0, 0, 0), (1959, (.aload_n 0), 1960, 0, 0, 0), (1960, (.iload 4), 1962, 0, 0, 0), (1962, (.iconst 1), 1963, 0, 0, 0), (1963, .iadd, 1964, 0, 0, 0), (1964, .iaload, 1965, 0, 0, 0), (1965, (.invokevirtual 257), 1968, 286, 1, 0), (1968, (.istore 6), 1970, 0, 0, 0), (1970, (.aload_n 2), 1971, 0, 0, 0), (1971, (.invokevirtual 160), 1974, 201, 0, 0), (1974, (.iload 5), 1976, 0, 0, 0), (1976, (.if_icmp .eq 5), 1979, 1981, 0, 0), (1979, (.iconst 0), 1980, 0, 0, 0), (1980, .ireturn, 1981, 0, 0, 0), (1981, (.iload 5), 1983, 0, 0, 0), (1983, (.ifCond .ne 15), 1986, 1998, 0, 0), (1986, (.aload_n 3), 1987, 0, 0, 0), (1987, (.iconst 0), 1988, 0, 0, 0), (1988, .laload, 1989, 0, 0, 0), (1989, (.iload 6), 1991, 0, 0, 0), (1991, .i2l, 1992, 0, 0, 0), (1992, .lcmp, 1993, 0, 0, 0), (1993, (.ifCond .eq 5), 1996, 1998, 0, 0), (1996, (.iconst 0), 1997, 0, 0, 0), (1997, .ireturn, 1998, 0, 0, 0), (1998, (.goto 1164), 2001, 3162, 0, 0)]
theorem cs_29 : cd_29.all (fun q => decide (jx_at jx_c377 q.1 = some q.2)) = true := by decide +kernel
theorem oe_i_29 {s : YZ} {a1 : Int} : ∀ k w, oe_29 s a1 = some (k, w) → (k, w) ∈ [((2 : Nat), (1 : Int))] := by
  unfold oe_29
  exact nzw_i (by decide) (fun _ _ h => by cases h)
set_option maxRecDepth 20000 in
theorem cl_29 {V : jx_V} (hV : V.1.stackTraces = false) {rt : Option FieldType} {J : jx_Jt} {KR : Option Value → Nat × Nat → jx_X → jx_I → jx_R → Prop} {KX : String → Nat × Nat → jx_X → jx_I → jx_R → Prop} (hS : jx_Snd V 205 rt [] false jx_c377 J KR KX) {X : jx_X} {R : jx_R} {I : jx_I} {a u : Nat} {s : YZ} {i : Int} {b : Nat × Nat} (h : LJ X R I a u s) (hi : 0 ≤ i ∧ i + 6 ≤ (V.2.2.2.2.2.2.1 : Nat)) (hn : V.2.2.2.2.2.2.1 ≤ 3072) (hb : 4 ≤ b.1 ∧ 24 ≤ b.2)
    (k : ∀ (X' : jx_X) (I' : jx_I) (R' : jx_R) (s' : YZ) (b' : Nat × Nat), LJ X' R' I' a u s' → b.1 ≤ b'.1 + 4 ∧ b.2 ≤ b'.2 + 24 → J 3162 [] [some (.ref V.2.2.2.2.2.1), some (.ref a), some (.ref (a + 147)), some (.ref u), some (jy i), none, none, none] b' X' I' R') : J 1945 [] [some (.ref V.2.2.2.2.2.1), some (.ref a), some (.ref (a + 147)), some (.ref u), some (jy i), none, none, none] b X I R := by
  have hS := jx_piece hS cs_29
  refine jy_aload_n hS rfl rfl ?_
  refine jy_aload_n hS rfl rfl ?_
  refine jy_iload hS rfl rfl ?_
  refine jy_iconst hS rfl ?_
  refine jy_iadd hS rfl ?_
  refine jy_sld hS rfl (by omega) (by omega) ?_
  refine jy_aload_n hS rfl rfl ?_
  refine jy_callS hS rfl rfl rfl (Nat.le_of_ble_eq_true rfl) (wr_29 hV (LJ_a h) h.2.2.2 (kc_29 hV (a1 := (V.2.2.2.2.2.2.2 (i + 1).toNat).toInt) h.1 h.2.2.1 (jy_rng _)) oe_i_29) (by decide) ⟨by (try dsimp only); omega, by (try dsimp only); omega⟩ (Nat.le_of_ble_eq_true rfl) ?_ (fun _ _ _ _ q => q.elim)
  rintro rv X1 I1 R1 ⟨x1, x2, hq⟩
  obtain ⟨w, s1, rfl, hC1, hg1, hf1, hs1⟩ := comb_A oe_i_29 (by decide) h.2.2.1 hq
  have hw := SO_rng hs1
  have hM1 := MI_B h.2.1 h.2.2.1 x2 hf1
  change J 1956 [jy w] _ _ _ _ _
  refine jy_istore hS rfl (Nat.le_of_ble_eq_true rfl) (L' := [some (.ref V.2.2.2.2.2.1), some (.ref a), some (.ref (a + 147)), some (.ref u), some (jy i), some (jy w), none, none]) rfl ?_
  refine jy_aload_n hS rfl rfl ?_
  refine jy_aload_n hS rfl rfl ?_
  refine jy_iload hS rfl rfl ?_
  refine jy_iconst hS rfl ?_
  refine jy_iadd hS rfl ?_
  refine jy_sld hS rfl (by omega) (by omega) ?_
  obtain ⟨Q1, QE1, hK2, m1, m2⟩ := mc_29 hV (a1 := (V.2.2.2.2.2.2.2 (i + 1).toNat).toInt) hM1 h.2.2.1 (jy_rng _)
  refine jy_callV hS rfl rfl rfl (Nat.le_of_ble_eq_true rfl) (Or.inl (MI_m hM1)) hK2 (by decide) ⟨Nat.zero_le _, Nat.zero_le _⟩ (Nat.le_of_ble_eq_true rfl) ?_ (fun _ _ _ _ q => (m2 _ _ _ q.2.2 : False).elim)
  rintro rv2 X2 I2 R2 ⟨e2, hq2⟩
  rw [e2]
  obtain ⟨eR, hf2, hM2, ht2, ⟨r, rfl⟩, hv2⟩ := comb_M ty_int hs1 (m1 _ _ _ hq2)
  rw [eR]
  have hL := LJ_2 hC1 x2 h.2.2.2 hg1 hf2 hM2
  change J 1968 [jy r] _ _ _ _ _
  refine jy_istore hS rfl (Nat.le_of_ble_eq_true rfl) (L' := [some (.ref V.2.2.2.2.2.1), some (.ref a), some (.ref (a + 147)), some (.ref u), some (jy i), some (jy w), some (jy r), none]) rfl ?_
  refine jy_aload_n hS rfl rfl ?_
  refine jy_callV hS rfl rfl rfl (Nat.le_of_ble_eq_true rfl) (Or.inl (MI_m hM2)) (cz_201 hV hM2.1 (QE := fun _ _ => False)) (by decide) ⟨Nat.zero_le _, Nat.zero_le _⟩ (Nat.le_of_ble_eq_true rfl) ?_ (fun _ _ _ _ q => q.2.2.2.elim)
  rintro rv3 X3 I3 R3 ⟨e3, e4, rfl, e5⟩
  rw [e3, e4, e5, ht2]
  change J 1974 [jy w] _ _ _ _ _
  refine jy_iload hS rfl rfl ?_
  refine jy_icmp_s hS rfl ?_
  refine jy_iload hS rfl rfl ?_
  refine jy_if_ne hS rfl (by omega) (fun h0 => ?_) (fun h0 => ?_)
  · refine jy_goto hS rfl ?_
    exact jy_join hS (k _ _ _ _ _ hL ⟨by (try dsimp only); omega, by (try dsimp only); omega⟩) rfl (jy_sub_s (jy_sub_s (jy_sub_s (jy_sub_s (jy_sub_s (jy_sub_n (jy_sub_n (jy_sub_n jy_sub_0))))))))
  · obtain ⟨hv3, hv4⟩ := hv2 h0
    have hv5 := Option.some.inj hv4
    rw [hv5]
    refine jy_aload_n hS rfl rfl ?_
    refine jy_iconst hS rfl ?_
    refine jy_lald hS rfl hL.2.2.2 (by decide) (by omega) ?_
    refine jy_iload hS rfl rfl ?_
    refine jy_i2l hS rfl rfl ?_
    refine jy_lcmp_s hS rfl hv3 ?_
    refine jy_if_0 hS rfl ?_
    refine jy_goto hS rfl ?_
    exact jy_join hS (k _ _ _ _ _ hL ⟨by (try dsimp only); omega, by (try dsimp only); omega⟩) rfl (jy_sub_s (jy_sub_s (jy_sub_s (jy_sub_s (jy_sub_s (jy_sub_n (jy_sub_n (jy_sub_n jy_sub_0))))))))
def cd_30 : List jx_row := [(2001, (.aload_n 1), 2002, 0, 0, 0), (2002, (.aload_n 0), 2003, 0, 0, 0), (2003, (.iload 4), 2005, 0, 0, 0), (2005, (.iconst 1), 2006, 0, 0, 0), (2006, .iadd, 2007, 0, 0, 0), (2007, .iaload, 2008, 0, 0, 0), (2008, (.aload_n 0), 2009, 0, 0, 0), (2009, (.iload 4), 2011, 0, 0, 0), (2011, (.iconst 2), 2012, 0, 0, 0), (2012, .iadd, 2013, 0, 0, 0), (2013, .iaload, 2014, 0, 0, 0), (2014, (.aload_n 3), 2015, 0, 0, 0), (2015, (.invokestatic 258), 2018, 361, 4, 2), (2018, (.istore 5), 2020, 0, 0, 0), (2020, (.aload_n 2), 2021, 0, 0, 0), (2021, (.aload_n 0), 2022, 0, 0, 0), (2022, (.iload 4), 2024, 0, 0, 0), (2024, (.iconst 1), 2025, 0, 0, 0), (2025, .iadd, 2026, 0, 0, 0), (2026, .iaload, 2027, 0, 0, 0), (2027, (.aload_n 0), 2028, 0, 0, 0), (2028, (.iload 4), 2030, 0, 0, 0), (2030, (.iconst 2), 2031, 0, 0, 0), (2031, .iadd, 2032, 0, 0, 0), (2032, .iaload, 2033, 0, 0, 0), (2033, (.invokevirtual 260), 2036, 288, 2, 0), (2036, (.istore 6), 2038, 0, 0, 0), (2038, (.aload_n 2), 2039, 0, 0, 0), (2039, (.invokevirtual 160), 2042, 201, 0, 0), (2042, (.iload 5), 2044, 0, 0, 0), (2044, (.if_icmp .eq 5), 2047, 2049, 0, 0), (2047, (.iconst 0), 2048, 0, 0, 0), (2048, .ireturn, 2049, 0, 0, 0), (2049, (.iload 5), 2051, 0, 0, 0), (2051, (.ifCond .ne 15), 2054, 2066, 0, 0), (2054, (.aload_n 3), 2055, 0, 0, 0), (2055, (.iconst 0), 2056, 0, 0, 0), (2056, .laload, 2057, 0, 0, 0), (2057, (.iload 6), 2059, 0, 0, 0), (2059, .i2l, 2060, 0, 0, 0), (2060, .lcmp, 2061, 0, 0, 0), (2061, (.ifCond .eq 5), 2064, 2066, 0, 0), (2064, (.iconst 0), 2065, 0, 0, 0), (2065, .ireturn, 2066, 0, 0, 0), (2066, (.goto 1096), 2069, 3162, 0, 0)]
theorem cs_30 : cd_30.all (fun q => decide (jx_at jx_c377 q.1 = some q.2)) = true := by decide +kernel
theorem oe_i_30 {s : YZ} {a1 : Int} {a2 : Int} : ∀ k w, oe_30 s a1 a2 = some (k, w) → (k, w) ∈ [((2 : Nat), (1 : Int))] := by
  unfold oe_30
  exact nzw_i (by decide) (fun _ _ h => by cases h)
set_option maxRecDepth 20000 in
theorem cl_30 {V : jx_V} (hV : V.1.stackTraces = false) {rt : Option FieldType} {J : jx_Jt} {KR : Option Value → Nat × Nat → jx_X → jx_I → jx_R → Prop} {KX : String → Nat × Nat → jx_X → jx_I → jx_R → Prop} (hS : jx_Snd V 205 rt [] false jx_c377 J KR KX) {X : jx_X} {R : jx_R} {I : jx_I} {a u : Nat} {s : YZ} {i : Int} {b : Nat × Nat} (h : LJ X R I a u s) (hi : 0 ≤ i ∧ i + 6 ≤ (V.2.2.2.2.2.2.1 : Nat)) (hn : V.2.2.2.2.2.2.1 ≤ 3072) (hb : 4 ≤ b.1 ∧ 24 ≤ b.2)
    (k : ∀ (X' : jx_X) (I' : jx_I) (R' : jx_R) (s' : YZ) (b' : Nat × Nat), LJ X' R' I' a u s' → b.1 ≤ b'.1 + 4 ∧ b.2 ≤ b'.2 + 24 → J 3162 [] [some (.ref V.2.2.2.2.2.1), some (.ref a), some (.ref (a + 147)), some (.ref u), some (jy i), none, none, none] b' X' I' R') : J 2001 [] [some (.ref V.2.2.2.2.2.1), some (.ref a), some (.ref (a + 147)), some (.ref u), some (jy i), none, none, none] b X I R := by
  have hS := jx_piece hS cs_30
  refine jy_aload_n hS rfl rfl ?_
  refine jy_aload_n hS rfl rfl ?_
  refine jy_iload hS rfl rfl ?_
  refine jy_iconst hS rfl ?_
  refine jy_iadd hS rfl ?_
  refine jy_sld hS rfl (by omega) (by omega) ?_
  refine jy_aload_n hS rfl rfl ?_
  refine jy_iload hS rfl rfl ?_
  refine jy_iconst hS rfl ?_
  refine jy_iadd hS rfl ?_
  refine jy_sld hS rfl (by omega) (by omega) ?_
  refine jy_aload_n hS rfl rfl ?_
  refine jy_callS hS rfl rfl rfl (Nat.le_of_ble_eq_true rfl) (wr_30 hV (LJ_a h) h.2.2.2 (kc_30 hV (a1 := (V.2.2.2.2.2.2.2 (i + 1).toNat).toInt) (a2 := (V.2.2.2.2.2.2.2 (i + 2).toNat).toInt) h.1 h.2.2.1 (jy_rng _) (jy_rng _)) oe_i_30) (by decide) ⟨by (try dsimp only); omega, by (try dsimp only); omega⟩ (Nat.le_of_ble_eq_true rfl) ?_ (fun _ _ _ _ q => q.elim)
  rintro rv X1 I1 R1 ⟨x1, x2, hq⟩
  obtain ⟨w, s1, rfl, hC1, hg1, hf1, hs1⟩ := comb_A oe_i_30 (by decide) h.2.2.1 hq
  have hw := SO_rng hs1
  have hM1 := MI_B h.2.1 h.2.2.1 x2 hf1
  change J 2018 [jy w] _ _ _ _ _
  refine jy_istore hS rfl (Nat.le_of_ble_eq_true rfl) (L' := [some (.ref V.2.2.2.2.2.1), some (.ref a), some (.ref (a + 147)), some (.ref u), some (jy i), some (jy w), none, none]) rfl ?_
  refine jy_aload_n hS rfl rfl ?_
  refine jy_aload_n hS rfl rfl ?_
  refine jy_iload hS rfl rfl ?_
  refine jy_iconst hS rfl ?_
  refine jy_iadd hS rfl ?_
  refine jy_sld hS rfl (by omega) (by omega) ?_
  refine jy_aload_n hS rfl rfl ?_
  refine jy_iload hS rfl rfl ?_
  refine jy_iconst hS rfl ?_
  refine jy_iadd hS rfl ?_
  refine jy_sld hS rfl (by omega) (by omega) ?_
  obtain ⟨Q1, QE1, hK2, m1, m2⟩ := mc_30 hV (a1 := (V.2.2.2.2.2.2.2 (i + 1).toNat).toInt) (a2 := (V.2.2.2.2.2.2.2 (i + 2).toNat).toInt) hM1 h.2.2.1 (jy_rng _) (jy_rng _)
  refine jy_callV hS rfl rfl rfl (Nat.le_of_ble_eq_true rfl) (Or.inl (MI_m hM1)) hK2 (by decide) ⟨Nat.zero_le _, Nat.zero_le _⟩ (Nat.le_of_ble_eq_true rfl) ?_ (fun _ _ _ _ q => (m2 _ _ _ q.2.2 : False).elim)
  rintro rv2 X2 I2 R2 ⟨e2, hq2⟩
  rw [e2]
  obtain ⟨eR, hf2, hM2, ht2, ⟨r, rfl⟩, hv2⟩ := comb_M ty_int hs1 (m1 _ _ _ hq2)
  rw [eR]
  have hL := LJ_2 hC1 x2 h.2.2.2 hg1 hf2 hM2
  change J 2036 [jy r] _ _ _ _ _
  refine jy_istore hS rfl (Nat.le_of_ble_eq_true rfl) (L' := [some (.ref V.2.2.2.2.2.1), some (.ref a), some (.ref (a + 147)), some (.ref u), some (jy i), some (jy w), some (jy r), none]) rfl ?_
  refine jy_aload_n hS rfl rfl ?_
  refine jy_callV hS rfl rfl rfl (Nat.le_of_ble_eq_true rfl) (Or.inl (MI_m hM2)) (cz_201 hV hM2.1 (QE := fun _ _ => False)) (by decide) ⟨Nat.zero_le _, Nat.zero_le _⟩ (Nat.le_of_ble_eq_true rfl) ?_ (fun _ _ _ _ q => q.2.2.2.elim)
  rintro rv3 X3 I3 R3 ⟨e3, e4, rfl, e5⟩
  rw [e3, e4, e5, ht2]
  change J 2042 [jy w] _ _ _ _ _
  refine jy_iload hS rfl rfl ?_
  refine jy_icmp_s hS rfl ?_
  refine jy_iload hS rfl rfl ?_
  refine jy_if_ne hS rfl (by omega) (fun h0 => ?_) (fun h0 => ?_)
  · refine jy_goto hS rfl ?_
    exact jy_join hS (k _ _ _ _ _ hL ⟨by (try dsimp only); omega, by (try dsimp only); omega⟩) rfl (jy_sub_s (jy_sub_s (jy_sub_s (jy_sub_s (jy_sub_s (jy_sub_n (jy_sub_n (jy_sub_n jy_sub_0))))))))
  · obtain ⟨hv3, hv4⟩ := hv2 h0
    have hv5 := Option.some.inj hv4
    rw [hv5]
    refine jy_aload_n hS rfl rfl ?_
    refine jy_iconst hS rfl ?_
    refine jy_lald hS rfl hL.2.2.2 (by decide) (by omega) ?_
    refine jy_iload hS rfl rfl ?_
    refine jy_i2l hS rfl rfl ?_
    refine jy_lcmp_s hS rfl hv3 ?_
    refine jy_if_0 hS rfl ?_
    refine jy_goto hS rfl ?_
    exact jy_join hS (k _ _ _ _ _ hL ⟨by (try dsimp only); omega, by (try dsimp only); omega⟩) rfl (jy_sub_s (jy_sub_s (jy_sub_s (jy_sub_s (jy_sub_s (jy_sub_n (jy_sub_n (jy_sub_n jy_sub_0))))))))
def cd_31 : List jx_row := [(2069, (.aload_n 1), 2070, 0, 0, 0), (2070, (.aload_n 0), 2071, 0, 0, 0), (2071, (.iload 4), 2073, 0, 0, 0), (2073, (.iconst 1), 2074, 0, 0, 0), (2074, .iadd, 2075, 0, 0, 0), (2075, .iaload, 2076, 0, 0, 0), (2076, (.aload_n 3), 2077, 0, 0, 0), (2077, (.invokestatic 261), 2080, 362, 3, 2), (2080, (.istore 5), 2082, 0, 0, 0), (2082, (.aload_n 2), 2083, 0, 0, 0), (2083, (.aload_n 0), 2084, 0, 0, 0), (2084, (.iload 4), 2086, 0, 0, 0), (2086, (.iconst 1), 2087, 0, 0, 0), (2087, .iadd, 2088, 0, 0, 0), (2088, .iaload, 2089, 0, 0, 0), (2089, (.invokevirtual 263), 2092, 289, 1, 0), (2092, (.istore 6), 2094, 0, 0, 0), (2094, (.aload_n 2), 2095, 0, 0, 0), (2095, (.invokevirtual 160), 2098, 201, 0, 0), (2098, (.iload 5), 2100, 0, 0, 0), (2100, (.if_icmp .eq 5), 2103, 2105, 0, 0), (2103, (.iconst 0), 2104, 0, 0, 0), (2104, .ireturn, 2105, 0, 0, 0), (2105, (.iload 5), 2107, 0, 0, 0), (2107, (.ifCond .ne 15), 2110, 2122, 0, 0), (2110, (.aload_n 3), 2111, 0, 0, 0), (2111, (.iconst 0), 2112, 0, 0, 0), (2112, .laload, 2113, 0, 0, 0), (2113, (.iload 6), 2115, 0, 0, 0), (2115, .i2l, 2116, 0, 0, 0), (2116, .lcmp, 2117, 0, 0, 0), (2117, (.ifCond .eq 5), 2120, 2122, 0, 0), (2120, (.iconst 0), 2121, 0, 0, 0), (2121, .ireturn, 2122, 0, 0, 0), (2122, (.goto 1040), 2125, 3162, 0, 0)]
theorem cs_31 : cd_31.all (fun q => decide (jx_at jx_c377 q.1 = some q.2)) = true := by decide +kernel
theorem oe_i_31 {s : YZ} {a1 : Int} : ∀ k w, oe_31 s a1 = some (k, w) → (k, w) ∈ [((2 : Nat), (1 : Int)), ((3 : Nat), (2 : Int))] := by
  unfold oe_31
  exact nzw_i (by decide) (nzw_i (by decide) (fun _ _ h => by cases h))
set_option maxRecDepth 20000 in
theorem cl_31 {V : jx_V} (hV : V.1.stackTraces = false) {rt : Option FieldType} {J : jx_Jt} {KR : Option Value → Nat × Nat → jx_X → jx_I → jx_R → Prop} {KX : String → Nat × Nat → jx_X → jx_I → jx_R → Prop} (hS : jx_Snd V 205 rt [] false jx_c377 J KR KX) {X : jx_X} {R : jx_R} {I : jx_I} {a u : Nat} {s : YZ} {i : Int} {b : Nat × Nat} (h : LJ X R I a u s) (hi : 0 ≤ i ∧ i + 6 ≤ (V.2.2.2.2.2.2.1 : Nat)) (hn : V.2.2.2.2.2.2.1 ≤ 3072) (hb : 4 ≤ b.1 ∧ 24 ≤ b.2)
    (k : ∀ (X' : jx_X) (I' : jx_I) (R' : jx_R) (s' : YZ) (b' : Nat × Nat), LJ X' R' I' a u s' → b.1 ≤ b'.1 + 4 ∧ b.2 ≤ b'.2 + 24 → J 3162 [] [some (.ref V.2.2.2.2.2.1), some (.ref a), some (.ref (a + 147)), some (.ref u), some (jy i), none, none, none] b' X' I' R') : J 2069 [] [some (.ref V.2.2.2.2.2.1), some (.ref a), some (.ref (a + 147)), some (.ref u), some (jy i), none, none, none] b X I R := by
  have hS := jx_piece hS cs_31
  refine jy_aload_n hS rfl rfl ?_
  refine jy_aload_n hS rfl rfl ?_
  refine jy_iload hS rfl rfl ?_
  refine jy_iconst hS rfl ?_
  refine jy_iadd hS rfl ?_
  refine jy_sld hS rfl (by omega) (by omega) ?_
  refine jy_aload_n hS rfl rfl ?_
  refine jy_callS hS rfl rfl rfl (Nat.le_of_ble_eq_true rfl) (wr_31 hV (LJ_a h) h.2.2.2 (kc_31 hV (a1 := (V.2.2.2.2.2.2.2 (i + 1).toNat).toInt) h.1 h.2.2.1 (jy_rng _)) oe_i_31) (by decide) ⟨by (try dsimp only); omega, by (try dsimp only); omega⟩ (Nat.le_of_ble_eq_true rfl) ?_ (fun _ _ _ _ q => q.elim)
  rintro rv X1 I1 R1 ⟨x1, x2, hq⟩
  obtain ⟨w, s1, rfl, hC1, hg1, hf1, hs1⟩ := comb_A oe_i_31 (by decide) h.2.2.1 hq
  have hw := SO_rng hs1
  have hM1 := MI_B h.2.1 h.2.2.1 x2 hf1
  change J 2080 [jy w] _ _ _ _ _
  refine jy_istore hS rfl (Nat.le_of_ble_eq_true rfl) (L' := [some (.ref V.2.2.2.2.2.1), some (.ref a), some (.ref (a + 147)), some (.ref u), some (jy i), some (jy w), none, none]) rfl ?_
  refine jy_aload_n hS rfl rfl ?_
  refine jy_aload_n hS rfl rfl ?_
  refine jy_iload hS rfl rfl ?_
  refine jy_iconst hS rfl ?_
  refine jy_iadd hS rfl ?_
  refine jy_sld hS rfl (by omega) (by omega) ?_
  obtain ⟨Q1, QE1, hK2, m1, m2⟩ := mc_31 hV (a1 := (V.2.2.2.2.2.2.2 (i + 1).toNat).toInt) hM1 h.2.2.1 (jy_rng _)
  refine jy_callV hS rfl rfl rfl (Nat.le_of_ble_eq_true rfl) (Or.inl (MI_m hM1)) hK2 (by decide) ⟨Nat.zero_le _, Nat.zero_le _⟩ (Nat.le_of_ble_eq_true rfl) ?_ (fun _ _ _ _ q => (m2 _ _ _ q.2.2 : False).elim)
  rintro rv2 X2 I2 R2 ⟨e2, hq2⟩
  rw [e2]
  obtain ⟨eR, hf2, hM2, ht2, ⟨r, rfl⟩, hv2⟩ := comb_M ty_int hs1 (m1 _ _ _ hq2)
  rw [eR]
  have hL := LJ_2 hC1 x2 h.2.2.2 hg1 hf2 hM2
  change J 2092 [jy r] _ _ _ _ _
  refine jy_istore hS rfl (Nat.le_of_ble_eq_true rfl) (L' := [some (.ref V.2.2.2.2.2.1), some (.ref a), some (.ref (a + 147)), some (.ref u), some (jy i), some (jy w), some (jy r), none]) rfl ?_
  refine jy_aload_n hS rfl rfl ?_
  refine jy_callV hS rfl rfl rfl (Nat.le_of_ble_eq_true rfl) (Or.inl (MI_m hM2)) (cz_201 hV hM2.1 (QE := fun _ _ => False)) (by decide) ⟨Nat.zero_le _, Nat.zero_le _⟩ (Nat.le_of_ble_eq_true rfl) ?_ (fun _ _ _ _ q => q.2.2.2.elim)
  rintro rv3 X3 I3 R3 ⟨e3, e4, rfl, e5⟩
  rw [e3, e4, e5, ht2]
  change J 2098 [jy w] _ _ _ _ _
  refine jy_iload hS rfl rfl ?_
  refine jy_icmp_s hS rfl ?_
  refine jy_iload hS rfl rfl ?_
  refine jy_if_ne hS rfl (by omega) (fun h0 => ?_) (fun h0 => ?_)
  · refine jy_goto hS rfl ?_
    exact jy_join hS (k _ _ _ _ _ hL ⟨by (try dsimp only); omega, by (try dsimp only); omega⟩) rfl (jy_sub_s (jy_sub_s (jy_sub_s (jy_sub_s (jy_sub_s (jy_sub_n (jy_sub_n (jy_sub_n jy_sub_0))))))))
  · obtain ⟨hv3, hv4⟩ := hv2 h0
    have hv5 := Option.some.inj hv4
    rw [hv5]
    refine jy_aload_n hS rfl rfl ?_
    refine jy_iconst hS rfl ?_
    refine jy_lald hS rfl hL.2.2.2 (by decide) (by omega) ?_
    refine jy_iload hS rfl rfl ?_
    refine jy_i2l hS rfl rfl ?_
    refine jy_lcmp_s hS rfl hv3 ?_
    refine jy_if_0 hS rfl ?_
    refine jy_goto hS rfl ?_
    exact jy_join hS (k _ _ _ _ _ hL ⟨by (try dsimp only); omega, by (try dsimp only); omega⟩) rfl (jy_sub_s (jy_sub_s (jy_sub_s (jy_sub_s (jy_sub_s (jy_sub_n (jy_sub_n (jy_sub_n jy_sub_0))))))))
def cd_32 : List jx_row := [(2125, (.aload_n 1), 2126, 0, 0, 0), (2126, (.aload_n 0), 2127, 0, 0, 0), (2127, (.iload 4), 2129, 0, 0, 0), (2129, (.iconst 1), 2130, 0, 0, 0), (2130, .iadd, 2131, 0, 0, 0), (2131, .iaload, 2132, 0, 0, 0), (2132, (.aload_n 0), 2133, 0, 0, 0), (2133, (.iload 4), 2135, 0, 0, 0), (2135, (.iconst 2), 2136, 0, 0, 0), (2136, .iadd, 2137, 0, 0, 0), (2137, .iaload, 2138, 0, 0, 0), (2138, (.aload_n 3), 2139, 0, 0, 0), (2139, (.invokestatic 264), 2142, 363, 4, 2), (2142, (.istore 5), 2144, 0, 0, 0), (2144, (.aload_n 2), 2145, 0, 0, 0), (2145, (.aload_n 0), 2146, 0, 0, 0), (2146, (.iload 4), 2148, 0, 0, 0), (2148, (.iconst 1), 2149, 0, 0, 0), (2149, .iadd, 2150, 0, 0, 0), (2150, .iaload, 2151, 0, 0, 0), (2151, (.aload_n 0), 2152, 0, 0, 0), (2152, (.iload 4), 2154, 0, 0, 0), (2154, (.iconst 2), 2155, 0, 0, 0), (2155, .iadd, 2156, 0, 0, 0), (2156, .iaload, 2157, 0, 0, 0), (2157, (.invokevirtual 266), 2160, 291, 2, 0), (2160, (.istore 6), 2162, 0, 0, 0), (2162, (.aload_n 2), 2163, 0, 0, 0), (2163, (.invokevirtual 160), 2166, 201, 0, 0), (2166, (.iload 5), 2168, 0, 0, 0), (2168, (.if_icmp .eq 5), 2171, 2173, 0, 0), (2171, (.iconst 0), 2172, 0, 0, 0), (2172, .ireturn, 2173, 0, 0, 0), (2173, (.iload 5), 2175, 0, 0, 0), (2175, (.ifCond .ne 15), 2178, 2190, 0, 0), (2178, (.aload_n 3), 2179, 0, 0, 0), (2179, (.iconst 0), 2180, 0, 0, 0), (2180, .laload, 2181, 0, 0, 0), (2181, (.iload 6), 2183, 0, 0, 0), (2183, .i2l, 2184, 0, 0, 0), (2184, .lcmp, 2185, 0, 0, 0), (2185, (.ifCond .eq 5), 2188, 2190, 0, 0), (2188, (.iconst 0), 2189, 0, 0, 0), (2189, .ireturn, 2190, 0, 0, 0), (2190, (.goto 972), 2193, 3162, 0, 0)]
theorem cs_32 : cd_32.all (fun q => decide (jx_at jx_c377 q.1 = some q.2)) = true := by decide +kernel
theorem oe_i_32 {s : YZ} {a1 : Int} {a2 : Int} : ∀ k w, oe_32 s a1 a2 = some (k, w) → (k, w) ∈ [((2 : Nat), (1 : Int)), ((3 : Nat), (2 : Int))] := by
  unfold oe_32
  exact nzw_i (by decide) (nzw_i (by decide) (fun _ _ h => by cases h))
set_option maxRecDepth 20000 in
theorem cl_32 {V : jx_V} (hV : V.1.stackTraces = false) {rt : Option FieldType} {J : jx_Jt} {KR : Option Value → Nat × Nat → jx_X → jx_I → jx_R → Prop} {KX : String → Nat × Nat → jx_X → jx_I → jx_R → Prop} (hS : jx_Snd V 205 rt [] false jx_c377 J KR KX) {X : jx_X} {R : jx_R} {I : jx_I} {a u : Nat} {s : YZ} {i : Int} {b : Nat × Nat} (h : LJ X R I a u s) (hi : 0 ≤ i ∧ i + 6 ≤ (V.2.2.2.2.2.2.1 : Nat)) (hn : V.2.2.2.2.2.2.1 ≤ 3072) (hb : 4 ≤ b.1 ∧ 24 ≤ b.2)
    (k : ∀ (X' : jx_X) (I' : jx_I) (R' : jx_R) (s' : YZ) (b' : Nat × Nat), LJ X' R' I' a u s' → b.1 ≤ b'.1 + 4 ∧ b.2 ≤ b'.2 + 24 → J 3162 [] [some (.ref V.2.2.2.2.2.1), some (.ref a), some (.ref (a + 147)), some (.ref u), some (jy i), none, none, none] b' X' I' R') : J 2125 [] [some (.ref V.2.2.2.2.2.1), some (.ref a), some (.ref (a + 147)), some (.ref u), some (jy i), none, none, none] b X I R := by
  have hS := jx_piece hS cs_32
  refine jy_aload_n hS rfl rfl ?_
  refine jy_aload_n hS rfl rfl ?_
  refine jy_iload hS rfl rfl ?_
  refine jy_iconst hS rfl ?_
  refine jy_iadd hS rfl ?_
  refine jy_sld hS rfl (by omega) (by omega) ?_
  refine jy_aload_n hS rfl rfl ?_
  refine jy_iload hS rfl rfl ?_
  refine jy_iconst hS rfl ?_
  refine jy_iadd hS rfl ?_
  refine jy_sld hS rfl (by omega) (by omega) ?_
  refine jy_aload_n hS rfl rfl ?_
  refine jy_callS hS rfl rfl rfl (Nat.le_of_ble_eq_true rfl) (wr_32 hV (LJ_a h) h.2.2.2 (kc_32 hV (a1 := (V.2.2.2.2.2.2.2 (i + 1).toNat).toInt) (a2 := (V.2.2.2.2.2.2.2 (i + 2).toNat).toInt) h.1 h.2.2.1 (jy_rng _) (jy_rng _)) oe_i_32) (by decide) ⟨by (try dsimp only); omega, by (try dsimp only); omega⟩ (Nat.le_of_ble_eq_true rfl) ?_ (fun _ _ _ _ q => q.elim)
  rintro rv X1 I1 R1 ⟨x1, x2, hq⟩
  obtain ⟨w, s1, rfl, hC1, hg1, hf1, hs1⟩ := comb_A oe_i_32 (by decide) h.2.2.1 hq
  have hw := SO_rng hs1
  have hM1 := MI_B h.2.1 h.2.2.1 x2 hf1
  change J 2142 [jy w] _ _ _ _ _
  refine jy_istore hS rfl (Nat.le_of_ble_eq_true rfl) (L' := [some (.ref V.2.2.2.2.2.1), some (.ref a), some (.ref (a + 147)), some (.ref u), some (jy i), some (jy w), none, none]) rfl ?_
  refine jy_aload_n hS rfl rfl ?_
  refine jy_aload_n hS rfl rfl ?_
  refine jy_iload hS rfl rfl ?_
  refine jy_iconst hS rfl ?_
  refine jy_iadd hS rfl ?_
  refine jy_sld hS rfl (by omega) (by omega) ?_
  refine jy_aload_n hS rfl rfl ?_
  refine jy_iload hS rfl rfl ?_
  refine jy_iconst hS rfl ?_
  refine jy_iadd hS rfl ?_
  refine jy_sld hS rfl (by omega) (by omega) ?_
  obtain ⟨Q1, QE1, hK2, m1, m2⟩ := mc_32 hV (a1 := (V.2.2.2.2.2.2.2 (i + 1).toNat).toInt) (a2 := (V.2.2.2.2.2.2.2 (i + 2).toNat).toInt) hM1 h.2.2.1 (jy_rng _) (jy_rng _)
  refine jy_callV hS rfl rfl rfl (Nat.le_of_ble_eq_true rfl) (Or.inl (MI_m hM1)) hK2 (by decide) ⟨Nat.zero_le _, Nat.zero_le _⟩ (Nat.le_of_ble_eq_true rfl) ?_ (fun _ _ _ _ q => (m2 _ _ _ q.2.2 : False).elim)
  rintro rv2 X2 I2 R2 ⟨e2, hq2⟩
  rw [e2]
  obtain ⟨eR, hf2, hM2, ht2, ⟨r, rfl⟩, hv2⟩ := comb_M ty_int hs1 (m1 _ _ _ hq2)
  rw [eR]
  have hL := LJ_2 hC1 x2 h.2.2.2 hg1 hf2 hM2
  change J 2160 [jy r] _ _ _ _ _
  refine jy_istore hS rfl (Nat.le_of_ble_eq_true rfl) (L' := [some (.ref V.2.2.2.2.2.1), some (.ref a), some (.ref (a + 147)), some (.ref u), some (jy i), some (jy w), some (jy r), none]) rfl ?_
  refine jy_aload_n hS rfl rfl ?_
  refine jy_callV hS rfl rfl rfl (Nat.le_of_ble_eq_true rfl) (Or.inl (MI_m hM2)) (cz_201 hV hM2.1 (QE := fun _ _ => False)) (by decide) ⟨Nat.zero_le _, Nat.zero_le _⟩ (Nat.le_of_ble_eq_true rfl) ?_ (fun _ _ _ _ q => q.2.2.2.elim)
  rintro rv3 X3 I3 R3 ⟨e3, e4, rfl, e5⟩
  rw [e3, e4, e5, ht2]
  change J 2166 [jy w] _ _ _ _ _
  refine jy_iload hS rfl rfl ?_
  refine jy_icmp_s hS rfl ?_
  refine jy_iload hS rfl rfl ?_
  refine jy_if_ne hS rfl (by omega) (fun h0 => ?_) (fun h0 => ?_)
  · refine jy_goto hS rfl ?_
    exact jy_join hS (k _ _ _ _ _ hL ⟨by (try dsimp only); omega, by (try dsimp only); omega⟩) rfl (jy_sub_s (jy_sub_s (jy_sub_s (jy_sub_s (jy_sub_s (jy_sub_n (jy_sub_n (jy_sub_n jy_sub_0))))))))
  · obtain ⟨hv3, hv4⟩ := hv2 h0
    have hv5 := Option.some.inj hv4
    rw [hv5]
    refine jy_aload_n hS rfl rfl ?_
    refine jy_iconst hS rfl ?_
    refine jy_lald hS rfl hL.2.2.2 (by decide) (by omega) ?_
    refine jy_iload hS rfl rfl ?_
    refine jy_i2l hS rfl rfl ?_
    refine jy_lcmp_s hS rfl hv3 ?_
    refine jy_if_0 hS rfl ?_
    refine jy_goto hS rfl ?_
    exact jy_join hS (k _ _ _ _ _ hL ⟨by (try dsimp only); omega, by (try dsimp only); omega⟩) rfl (jy_sub_s (jy_sub_s (jy_sub_s (jy_sub_s (jy_sub_s (jy_sub_n (jy_sub_n (jy_sub_n jy_sub_0))))))))
def cd_33 : List jx_row := [(2193, (.aload_n 1), 2194, 0, 0, 0), (2194, (.aload_n 0), 2195, 0, 0, 0), (2195, (.iload 4), 2197, 0, 0, 0), (2197, (.iconst 1), 2198, 0, 0, 0), (2198, .iadd, 2199, 0, 0, 0), (2199, .iaload, 2200, 0, 0, 0), (2200, (.aload_n 0), 2201, 0, 0, 0), (2201, (.iload 4), 2203, 0, 0, 0), (2203, (.iconst 2), 2204, 0, 0, 0), (2204, .iadd, 2205, 0, 0, 0), (2205, .iaload, 2206, 0, 0, 0), (2206, (.aload_n 0), 2207, 0, 0, 0), (2207, (.iload 4), 2209, 0, 0, 0), (2209, (.iconst 3), 2210, 0, 0, 0), (2210, .iadd, 2211, 0, 0, 0), (2211, .iaload, 2212, 0, 0, 0), (2212, (.aload_n 0), 2213, 0, 0, 0), (2213, (.iload 4), 2215, 0, 0, 0), (2215, (.iconst 4), 2216, 0, 0, 0), (2216, .iadd, 2217, 0, 0, 0), (2217, .iaload, 2218, 0, 0, 0), (2218, (.aload_n 3), 2219, 0, 0, 0), (2219, (.invokestatic 267), 2222, 364, 6, 2), (2222, (.istore 5), 2224, 0, 0, 0), (2224, (.aload_n 2), 2225, 0, 0, 0), (2225, (.aload_n 0), 2226, 0, 0, 0), (2226, (.iload 4), 2228, 0, 0, 0), (2228, (.iconst 1), 2229, 0, 0, 0), (2229, .iadd, 2230, 0, 0, 0), (2230, .iaload, 2231, 0, 0, 0), (2231, (.aload_n 0), 2232, 0, 0, 0), (2232, (.iload 4), 2234, 0, 0, 0), (2234, (.iconst 2), 2235, 0, 0, 0), (2235, .iadd, 2236, 0, 0, 0), (2236, .iaload, 2237, 0, 0, 0), (2237, (.aload_n 0), 2238, 0, 0, 0), (2238, (.iload 4), 2240, 0, 0, 0), (2240, (.iconst 3), 2241, 0, 0, 0), (2241, .iadd, 2242, 0, 0, 0), (2242, .iaload, 2243, 0, 0, 0), (2243, (.aload_n 0), 2244, 0, 0, 0), (2244, (.iload 4), 2246, 0, 0, 0), (2246, (.iconst 4), 2247, 0, 0, 0), (2247, .iadd, 2248, 0, 0, 0), (2248, .iaload, 2249, 0, 0, 0), (2249, (.invokevirtual 270), 2252, 292, 4, 0), (2252, (.istore 6), 2254, 0, 0, 0), (2254, (.aload_n 2), 2255, 0, 0, 0), (2255, (.invokevirtual 160), 2258, 201, 0, 0), (2258, (.iload 5), 2260, 0, 0, 0), (2260, (.if_icmp .eq 5), 2263, 2265, 0, 0), (2263, (.iconst 0), 2264, 0, 0, 0), (2264, .ireturn, 2265, 0, 0, 0), (2265, (.iload 5), 2267, 0, 0, 0), (2267, (.ifCond .ne 15), 2270, 2282, 0, 0), (2270, (.aload_n 3), 2271, 0, 0, 0), (2271, (.iconst 0), 2272, 0, 0, 0), (2272, .laload, 2273, 0, 0, 0), (2273, (.iload 6), 2275, 0, 0, 0), (2275, .i2l, 2276, 0, 0, 0), (2276, .lcmp, 2277, 0, 0, 0), (2277, (.ifCond .eq 5), 2280, 2282, 0, 0), (2280, (.iconst 0), 2281, 0, 0, 0), (2281, .ireturn, 2282, 0, 0, 0), (2282, (.goto 880), 2285, 3162, 0, 0)]
theorem cs_33 : cd_33.all (fun q => decide (jx_at jx_c377 q.1 = some q.2)) = true := by decide +kernel
theorem oe_i_33 {s : YZ} {a1 : Int} {a2 : Int} {a3 : Int} {a4 : Int} : ∀ k w, oe_33 s a1 a2 a3 a4 = some (k, w) → (k, w) ∈ [((2 : Nat), (1 : Int)), ((3 : Nat), (2 : Int))] := by
  unfold oe_33
  exact nzw_i (by decide) (nzw_i (by decide) (fun _ _ h => by cases h))
set_option maxRecDepth 20000 in
theorem cl_33 {V : jx_V} (hV : V.1.stackTraces = false) {rt : Option FieldType} {J : jx_Jt} {KR : Option Value → Nat × Nat → jx_X → jx_I → jx_R → Prop} {KX : String → Nat × Nat → jx_X → jx_I → jx_R → Prop} (hS : jx_Snd V 205 rt [] false jx_c377 J KR KX) {X : jx_X} {R : jx_R} {I : jx_I} {a u : Nat} {s : YZ} {i : Int} {b : Nat × Nat} (h : LJ X R I a u s) (hi : 0 ≤ i ∧ i + 6 ≤ (V.2.2.2.2.2.2.1 : Nat)) (hn : V.2.2.2.2.2.2.1 ≤ 3072) (hb : 4 ≤ b.1 ∧ 24 ≤ b.2)
    (k : ∀ (X' : jx_X) (I' : jx_I) (R' : jx_R) (s' : YZ) (b' : Nat × Nat), LJ X' R' I' a u s' → b.1 ≤ b'.1 + 4 ∧ b.2 ≤ b'.2 + 24 → J 3162 [] [some (.ref V.2.2.2.2.2.1), some (.ref a), some (.ref (a + 147)), some (.ref u), some (jy i), none, none, none] b' X' I' R') : J 2193 [] [some (.ref V.2.2.2.2.2.1), some (.ref a), some (.ref (a + 147)), some (.ref u), some (jy i), none, none, none] b X I R := by
  have hS := jx_piece hS cs_33
  refine jy_aload_n hS rfl rfl ?_
  refine jy_aload_n hS rfl rfl ?_
  refine jy_iload hS rfl rfl ?_
  refine jy_iconst hS rfl ?_
  refine jy_iadd hS rfl ?_
  refine jy_sld hS rfl (by omega) (by omega) ?_
  refine jy_aload_n hS rfl rfl ?_
  refine jy_iload hS rfl rfl ?_
  refine jy_iconst hS rfl ?_
  refine jy_iadd hS rfl ?_
  refine jy_sld hS rfl (by omega) (by omega) ?_
  refine jy_aload_n hS rfl rfl ?_
  refine jy_iload hS rfl rfl ?_
  refine jy_iconst hS rfl ?_
  refine jy_iadd hS rfl ?_
  refine jy_sld hS rfl (by omega) (by omega) ?_
  refine jy_aload_n hS rfl rfl ?_
  refine jy_iload hS rfl rfl ?_
  refine jy_iconst hS rfl ?_
  refine jy_iadd hS rfl ?_
  refine jy_sld hS rfl (by omega) (by omega) ?_
  refine jy_aload_n hS rfl rfl ?_
  refine jy_callS hS rfl rfl rfl (Nat.le_of_ble_eq_true rfl) (wr_33 hV (LJ_a h) h.2.2.2 (kc_33 hV (a1 := (V.2.2.2.2.2.2.2 (i + 1).toNat).toInt) (a2 := (V.2.2.2.2.2.2.2 (i + 2).toNat).toInt) (a3 := (V.2.2.2.2.2.2.2 (i + 3).toNat).toInt) (a4 := (V.2.2.2.2.2.2.2 (i + 4).toNat).toInt) h.1 h.2.2.1 (jy_rng _) (jy_rng _) (jy_rng _) (jy_rng _)) oe_i_33) (by decide) ⟨by (try dsimp only); omega, by (try dsimp only); omega⟩ (Nat.le_of_ble_eq_true rfl) ?_ (fun _ _ _ _ q => q.elim)
  rintro rv X1 I1 R1 ⟨x1, x2, hq⟩
  obtain ⟨w, s1, rfl, hC1, hg1, hf1, hs1⟩ := comb_A oe_i_33 (by decide) h.2.2.1 hq
  have hw := SO_rng hs1
  have hM1 := MI_B h.2.1 h.2.2.1 x2 hf1
  change J 2222 [jy w] _ _ _ _ _
  refine jy_istore hS rfl (Nat.le_of_ble_eq_true rfl) (L' := [some (.ref V.2.2.2.2.2.1), some (.ref a), some (.ref (a + 147)), some (.ref u), some (jy i), some (jy w), none, none]) rfl ?_
  refine jy_aload_n hS rfl rfl ?_
  refine jy_aload_n hS rfl rfl ?_
  refine jy_iload hS rfl rfl ?_
  refine jy_iconst hS rfl ?_
  refine jy_iadd hS rfl ?_
  refine jy_sld hS rfl (by omega) (by omega) ?_
  refine jy_aload_n hS rfl rfl ?_
  refine jy_iload hS rfl rfl ?_
  refine jy_iconst hS rfl ?_
  refine jy_iadd hS rfl ?_
  refine jy_sld hS rfl (by omega) (by omega) ?_
  refine jy_aload_n hS rfl rfl ?_
  refine jy_iload hS rfl rfl ?_
  refine jy_iconst hS rfl ?_
  refine jy_iadd hS rfl ?_
  refine jy_sld hS rfl (by omega) (by omega) ?_
  refine jy_aload_n hS rfl rfl ?_
  refine jy_iload hS rfl rfl ?_
  refine jy_iconst hS rfl ?_
  refine jy_iadd hS rfl ?_
  refine jy_sld hS rfl (by omega) (by omega) ?_
  obtain ⟨Q1, QE1, hK2, m1, m2⟩ := mc_33 hV (a1 := (V.2.2.2.2.2.2.2 (i + 1).toNat).toInt) (a2 := (V.2.2.2.2.2.2.2 (i + 2).toNat).toInt) (a3 := (V.2.2.2.2.2.2.2 (i + 3).toNat).toInt) (a4 := (V.2.2.2.2.2.2.2 (i + 4).toNat).toInt) hM1 h.2.2.1 (jy_rng _) (jy_rng _) (jy_rng _) (jy_rng _)
  refine jy_callV hS rfl rfl rfl (Nat.le_of_ble_eq_true rfl) (Or.inl (MI_m hM1)) hK2 (by decide) ⟨Nat.zero_le _, Nat.zero_le _⟩ (Nat.le_of_ble_eq_true rfl) ?_ (fun _ _ _ _ q => (m2 _ _ _ q.2.2 : False).elim)
  rintro rv2 X2 I2 R2 ⟨e2, hq2⟩
  rw [e2]
  obtain ⟨eR, hf2, hM2, ht2, ⟨r, rfl⟩, hv2⟩ := comb_M ty_int hs1 (m1 _ _ _ hq2)
  rw [eR]
  have hL := LJ_2 hC1 x2 h.2.2.2 hg1 hf2 hM2
  change J 2252 [jy r] _ _ _ _ _
  refine jy_istore hS rfl (Nat.le_of_ble_eq_true rfl) (L' := [some (.ref V.2.2.2.2.2.1), some (.ref a), some (.ref (a + 147)), some (.ref u), some (jy i), some (jy w), some (jy r), none]) rfl ?_
  refine jy_aload_n hS rfl rfl ?_
  refine jy_callV hS rfl rfl rfl (Nat.le_of_ble_eq_true rfl) (Or.inl (MI_m hM2)) (cz_201 hV hM2.1 (QE := fun _ _ => False)) (by decide) ⟨Nat.zero_le _, Nat.zero_le _⟩ (Nat.le_of_ble_eq_true rfl) ?_ (fun _ _ _ _ q => q.2.2.2.elim)
  rintro rv3 X3 I3 R3 ⟨e3, e4, rfl, e5⟩
  rw [e3, e4, e5, ht2]
  change J 2258 [jy w] _ _ _ _ _
  refine jy_iload hS rfl rfl ?_
  refine jy_icmp_s hS rfl ?_
  refine jy_iload hS rfl rfl ?_
  refine jy_if_ne hS rfl (by omega) (fun h0 => ?_) (fun h0 => ?_)
  · refine jy_goto hS rfl ?_
    exact jy_join hS (k _ _ _ _ _ hL ⟨by (try dsimp only); omega, by (try dsimp only); omega⟩) rfl (jy_sub_s (jy_sub_s (jy_sub_s (jy_sub_s (jy_sub_s (jy_sub_n (jy_sub_n (jy_sub_n jy_sub_0))))))))
  · obtain ⟨hv3, hv4⟩ := hv2 h0
    have hv5 := Option.some.inj hv4
    rw [hv5]
    refine jy_aload_n hS rfl rfl ?_
    refine jy_iconst hS rfl ?_
    refine jy_lald hS rfl hL.2.2.2 (by decide) (by omega) ?_
    refine jy_iload hS rfl rfl ?_
    refine jy_i2l hS rfl rfl ?_
    refine jy_lcmp_s hS rfl hv3 ?_
    refine jy_if_0 hS rfl ?_
    refine jy_goto hS rfl ?_
    exact jy_join hS (k _ _ _ _ _ hL ⟨by (try dsimp only); omega, by (try dsimp only); omega⟩) rfl (jy_sub_s (jy_sub_s (jy_sub_s (jy_sub_s (jy_sub_s (jy_sub_n (jy_sub_n (jy_sub_n jy_sub_0))))))))
def cd_34 : List jx_row := [(2285, (.aload_n 1), 2286, 0, 0, 0), (2286, (.aload_n 0), 2287, 0, 0, 0), (2287, (.iload 4), 2289, 0, 0, 0), (2289, (.iconst 1), 2290, 0, 0, 0), (2290, .iadd, 2291, 0, 0, 0), (2291, .iaload, 2292, 0, 0, 0), (2292, (.aload_n 3), 2293, 0, 0, 0), (2293, (.invokestatic 271), 2296, 365, 3, 2), (2296, (.istore 5), 2298, 0, 0, 0), (2298, (.aload_n 2), 2299, 0, 0, 0), (2299, (.aload_n 0), 2300, 0, 0, 0), (2300, (.iload 4), 2302, 0, 0, 0), (2302, (.iconst 1), 2303, 0, 0, 0), (2303, .iadd, 2304, 0, 0, 0), (2304, .iaload, 2305, 0, 0, 0), (2305, (.invokevirtual 273), 2308, 307, 1, 0), (2308, (.istore 6), 2310, 0, 0, 0), (2310, (.aload_n 2), 2311, 0, 0, 0), (2311, (.invokevirtual 160), 2314, 201, 0, 0), (2314, (.iload 5), 2316, 0, 0, 0), (2316, (.if_icmp .eq 5), 2319, 2321, 0, 0), (2319, (.iconst 0), 2320, 0, 0, 0), (2320, .ireturn, 2321, 0, 0, 0), (2321, (.iload 5), 2323, 0, 0, 0), (2323, (.ifCond .ne 15), 2326, 2338, 0, 0), (2326, (.aload_n 3), 2327, 0, 0, 0), (2327, (.iconst 0), 2328, 0, 0, 0), (2328, .laload, 2329, 0, 0, 0), (2329, (.iload 6), 2331, 0, 0, 0), (2331, .i2l, 2332, 0, 0, 0), (2332, .lcmp, 2333, 0, 0, 0), (2333, (.ifCond .eq 5), 2336, 2338, 0, 0), (2336, (.iconst 0), 2337, 0, 0, 0), (2337, .ireturn, 2338, 0, 0, 0), (2338, (.goto 824), 2341, 3162, 0, 0)]
theorem cs_34 : cd_34.all (fun q => decide (jx_at jx_c377 q.1 = some q.2)) = true := by decide +kernel
theorem oe_i_34 {s : YZ} {a1 : Int} : ∀ k w, oe_34 s a1 = some (k, w) → (k, w) ∈ [((2 : Nat), (1 : Int))] := by
  unfold oe_34
  exact nzw_i (by decide) (fun _ _ h => by cases h)
set_option maxRecDepth 20000 in
theorem cl_34 {V : jx_V} (hV : V.1.stackTraces = false) {rt : Option FieldType} {J : jx_Jt} {KR : Option Value → Nat × Nat → jx_X → jx_I → jx_R → Prop} {KX : String → Nat × Nat → jx_X → jx_I → jx_R → Prop} (hS : jx_Snd V 205 rt [] false jx_c377 J KR KX) {X : jx_X} {R : jx_R} {I : jx_I} {a u : Nat} {s : YZ} {i : Int} {b : Nat × Nat} (h : LJ X R I a u s) (hi : 0 ≤ i ∧ i + 6 ≤ (V.2.2.2.2.2.2.1 : Nat)) (hn : V.2.2.2.2.2.2.1 ≤ 3072) (hb : 4 ≤ b.1 ∧ 24 ≤ b.2)
    (k : ∀ (X' : jx_X) (I' : jx_I) (R' : jx_R) (s' : YZ) (b' : Nat × Nat), LJ X' R' I' a u s' → b.1 ≤ b'.1 + 4 ∧ b.2 ≤ b'.2 + 24 → J 3162 [] [some (.ref V.2.2.2.2.2.1), some (.ref a), some (.ref (a + 147)), some (.ref u), some (jy i), none, none, none] b' X' I' R') : J 2285 [] [some (.ref V.2.2.2.2.2.1), some (.ref a), some (.ref (a + 147)), some (.ref u), some (jy i), none, none, none] b X I R := by
  have hS := jx_piece hS cs_34
  refine jy_aload_n hS rfl rfl ?_
  refine jy_aload_n hS rfl rfl ?_
  refine jy_iload hS rfl rfl ?_
  refine jy_iconst hS rfl ?_
  refine jy_iadd hS rfl ?_
  refine jy_sld hS rfl (by omega) (by omega) ?_
  refine jy_aload_n hS rfl rfl ?_
  refine jy_callS hS rfl rfl rfl (Nat.le_of_ble_eq_true rfl) (wr_34 hV (LJ_a h) h.2.2.2 (kc_34 hV (a1 := (V.2.2.2.2.2.2.2 (i + 1).toNat).toInt) h.1 h.2.2.1 (jy_rng _)) oe_i_34) (by decide) ⟨by (try dsimp only); omega, by (try dsimp only); omega⟩ (Nat.le_of_ble_eq_true rfl) ?_ (fun _ _ _ _ q => q.elim)
  rintro rv X1 I1 R1 ⟨x1, x2, hq⟩
  obtain ⟨w, s1, rfl, hC1, hg1, hf1, hs1⟩ := comb_A oe_i_34 (by decide) h.2.2.1 hq
  have hw := SO_rng hs1
  have hM1 := MI_B h.2.1 h.2.2.1 x2 hf1
  change J 2296 [jy w] _ _ _ _ _
  refine jy_istore hS rfl (Nat.le_of_ble_eq_true rfl) (L' := [some (.ref V.2.2.2.2.2.1), some (.ref a), some (.ref (a + 147)), some (.ref u), some (jy i), some (jy w), none, none]) rfl ?_
  refine jy_aload_n hS rfl rfl ?_
  refine jy_aload_n hS rfl rfl ?_
  refine jy_iload hS rfl rfl ?_
  refine jy_iconst hS rfl ?_
  refine jy_iadd hS rfl ?_
  refine jy_sld hS rfl (by omega) (by omega) ?_
  obtain ⟨Q1, QE1, hK2, m1, m2⟩ := mc_34 hV (a1 := (V.2.2.2.2.2.2.2 (i + 1).toNat).toInt) hM1 h.2.2.1 (jy_rng _)
  refine jy_callV hS rfl rfl rfl (Nat.le_of_ble_eq_true rfl) (Or.inl (MI_m hM1)) hK2 (by decide) ⟨Nat.zero_le _, Nat.zero_le _⟩ (Nat.le_of_ble_eq_true rfl) ?_ (fun _ _ _ _ q => (m2 _ _ _ q.2.2 : False).elim)
  rintro rv2 X2 I2 R2 ⟨e2, hq2⟩
  rw [e2]
  obtain ⟨eR, hf2, hM2, ht2, ⟨r, rfl⟩, hv2⟩ := comb_M ty_int hs1 (m1 _ _ _ hq2)
  rw [eR]
  have hL := LJ_2 hC1 x2 h.2.2.2 hg1 hf2 hM2
  change J 2308 [jy r] _ _ _ _ _
  refine jy_istore hS rfl (Nat.le_of_ble_eq_true rfl) (L' := [some (.ref V.2.2.2.2.2.1), some (.ref a), some (.ref (a + 147)), some (.ref u), some (jy i), some (jy w), some (jy r), none]) rfl ?_
  refine jy_aload_n hS rfl rfl ?_
  refine jy_callV hS rfl rfl rfl (Nat.le_of_ble_eq_true rfl) (Or.inl (MI_m hM2)) (cz_201 hV hM2.1 (QE := fun _ _ => False)) (by decide) ⟨Nat.zero_le _, Nat.zero_le _⟩ (Nat.le_of_ble_eq_true rfl) ?_ (fun _ _ _ _ q => q.2.2.2.elim)
  rintro rv3 X3 I3 R3 ⟨e3, e4, rfl, e5⟩
  rw [e3, e4, e5, ht2]
  change J 2314 [jy w] _ _ _ _ _
  refine jy_iload hS rfl rfl ?_
  refine jy_icmp_s hS rfl ?_
  refine jy_iload hS rfl rfl ?_
  refine jy_if_ne hS rfl (by omega) (fun h0 => ?_) (fun h0 => ?_)
  · refine jy_goto hS rfl ?_
    exact jy_join hS (k _ _ _ _ _ hL ⟨by (try dsimp only); omega, by (try dsimp only); omega⟩) rfl (jy_sub_s (jy_sub_s (jy_sub_s (jy_sub_s (jy_sub_s (jy_sub_n (jy_sub_n (jy_sub_n jy_sub_0))))))))
  · obtain ⟨hv3, hv4⟩ := hv2 h0
    have hv5 := Option.some.inj hv4
    rw [hv5]
    refine jy_aload_n hS rfl rfl ?_
    refine jy_iconst hS rfl ?_
    refine jy_lald hS rfl hL.2.2.2 (by decide) (by omega) ?_
    refine jy_iload hS rfl rfl ?_
    refine jy_i2l hS rfl rfl ?_
    refine jy_lcmp_s hS rfl hv3 ?_
    refine jy_if_0 hS rfl ?_
    refine jy_goto hS rfl ?_
    exact jy_join hS (k _ _ _ _ _ hL ⟨by (try dsimp only); omega, by (try dsimp only); omega⟩) rfl (jy_sub_s (jy_sub_s (jy_sub_s (jy_sub_s (jy_sub_s (jy_sub_n (jy_sub_n (jy_sub_n jy_sub_0))))))))
def cd_35 : List jx_row := [(2341, (.aload_n 1), 2342, 0, 0, 0), (2342, (.aload_n 0), 2343, 0, 0, 0), (2343, (.iload 4), 2345, 0, 0, 0), (2345, (.iconst 1), 2346, 0, 0, 0), (2346, .iadd, 2347, 0, 0, 0), (2347, .iaload, 2348, 0, 0, 0), (2348, (.aload_n 0), 2349, 0, 0, 0), (2349, (.iload 4), 2351, 0, 0, 0), (2351, (.iconst 2), 2352, 0, 0, 0), (2352, .iadd, 2353, 0, 0, 0), (2353, .iaload, 2354, 0, 0, 0), (2354, (.aload_n 3), 2355, 0, 0, 0), (2355, (.invokestatic 274), 2358, 366, 4, 2), (2358, (.istore 5), 2360, 0, 0, 0), (2360, (.aload_n 2), 2361, 0, 0, 0), (2361, (.aload_n 0), 2362, 0, 0, 0), (2362, (.iload 4), 2364, 0, 0, 0), (2364, (.iconst 1), 2365, 0, 0, 0), (2365, .iadd, 2366, 0, 0, 0), (2366, .iaload, 2367, 0, 0, 0), (2367, (.aload_n 0), 2368, 0, 0, 0), (2368, (.iload 4), 2370, 0, 0, 0), (2370, (.iconst 2), 2371, 0, 0, 0), (2371, .iadd, 2372, 0, 0, 0), (2372, .iaload, 2373, 0, 0, 0), (2373, (.invokevirtual 276), 2376, 317, 2, 0), (2376, (.istore 6), 2378, 0, 0, 0), (2378, (.aload_n 2), 2379, 0, 0, 0), (2379, (.invokevirtual 160), 2382, 201, 0, 0), (2382, (.iload 5), 2384, 0, 0, 0), (2384, (.if_icmp .eq 5), 2387, 2389, 0, 0), (2387, (.iconst 0), 2388, 0, 0, 0), (2388, .ireturn, 2389, 0, 0, 0), (2389, (.iload 5), 2391, 0, 0, 0), (2391, (.ifCond .ne 15), 2394, 2406, 0, 0), (2394, (.aload_n 3), 2395, 0, 0, 0), (2395, (.iconst 0), 2396, 0, 0, 0), (2396, .laload, 2397, 0, 0, 0), (2397, (.iload 6), 2399, 0, 0, 0), (2399, .i2l, 2400, 0, 0, 0), (2400, .lcmp, 2401, 0, 0, 0), (2401, (.ifCond .eq 5), 2404, 2406, 0, 0), (2404, (.iconst 0), 2405, 0, 0, 0), (2405, .ireturn, 2406, 0, 0, 0), (2406, (.goto 756), 2409, 3162, 0, 0)]
theorem cs_35 : cd_35.all (fun q => decide (jx_at jx_c377 q.1 = some q.2)) = true := by decide +kernel
theorem oe_i_35 {s : YZ} {a1 : Int} {a2 : Int} : ∀ k w, oe_35 s a1 a2 = some (k, w) → (k, w) ∈ [((0 : Nat), (1 : Int)), ((2 : Nat), (2 : Int))] := by
  unfold oe_35
  exact nzw_i (by decide) (nzw_i (by decide) (fun _ _ h => by cases h))
set_option maxRecDepth 20000 in
theorem cl_35 {V : jx_V} (hV : V.1.stackTraces = false) {rt : Option FieldType} {J : jx_Jt} {KR : Option Value → Nat × Nat → jx_X → jx_I → jx_R → Prop} {KX : String → Nat × Nat → jx_X → jx_I → jx_R → Prop} (hS : jx_Snd V 205 rt [] false jx_c377 J KR KX) {X : jx_X} {R : jx_R} {I : jx_I} {a u : Nat} {s : YZ} {i : Int} {b : Nat × Nat} (h : LJ X R I a u s) (hi : 0 ≤ i ∧ i + 6 ≤ (V.2.2.2.2.2.2.1 : Nat)) (hn : V.2.2.2.2.2.2.1 ≤ 3072) (hb : 4 ≤ b.1 ∧ 24 ≤ b.2)
    (k : ∀ (X' : jx_X) (I' : jx_I) (R' : jx_R) (s' : YZ) (b' : Nat × Nat), LJ X' R' I' a u s' → b.1 ≤ b'.1 + 4 ∧ b.2 ≤ b'.2 + 24 → J 3162 [] [some (.ref V.2.2.2.2.2.1), some (.ref a), some (.ref (a + 147)), some (.ref u), some (jy i), none, none, none] b' X' I' R') : J 2341 [] [some (.ref V.2.2.2.2.2.1), some (.ref a), some (.ref (a + 147)), some (.ref u), some (jy i), none, none, none] b X I R := by
  have hS := jx_piece hS cs_35
  refine jy_aload_n hS rfl rfl ?_
  refine jy_aload_n hS rfl rfl ?_
  refine jy_iload hS rfl rfl ?_
  refine jy_iconst hS rfl ?_
  refine jy_iadd hS rfl ?_
  refine jy_sld hS rfl (by omega) (by omega) ?_
  refine jy_aload_n hS rfl rfl ?_
  refine jy_iload hS rfl rfl ?_
  refine jy_iconst hS rfl ?_
  refine jy_iadd hS rfl ?_
  refine jy_sld hS rfl (by omega) (by omega) ?_
  refine jy_aload_n hS rfl rfl ?_
  refine jy_callS hS rfl rfl rfl (Nat.le_of_ble_eq_true rfl) (wr_35 hV (LJ_a h) h.2.2.2 (kc_35 hV (a1 := (V.2.2.2.2.2.2.2 (i + 1).toNat).toInt) (a2 := (V.2.2.2.2.2.2.2 (i + 2).toNat).toInt) h.1 h.2.2.1 (jy_rng _) (jy_rng _)) oe_i_35) (by decide) ⟨by (try dsimp only); omega, by (try dsimp only); omega⟩ (Nat.le_of_ble_eq_true rfl) ?_ (fun _ _ _ _ q => q.elim)
  rintro rv X1 I1 R1 ⟨x1, x2, hq⟩
  obtain ⟨w, s1, rfl, hC1, hg1, hf1, hs1⟩ := comb_A oe_i_35 (by decide) h.2.2.1 hq
  have hw := SO_rng hs1
  have hM1 := MI_B h.2.1 h.2.2.1 x2 hf1
  change J 2358 [jy w] _ _ _ _ _
  refine jy_istore hS rfl (Nat.le_of_ble_eq_true rfl) (L' := [some (.ref V.2.2.2.2.2.1), some (.ref a), some (.ref (a + 147)), some (.ref u), some (jy i), some (jy w), none, none]) rfl ?_
  refine jy_aload_n hS rfl rfl ?_
  refine jy_aload_n hS rfl rfl ?_
  refine jy_iload hS rfl rfl ?_
  refine jy_iconst hS rfl ?_
  refine jy_iadd hS rfl ?_
  refine jy_sld hS rfl (by omega) (by omega) ?_
  refine jy_aload_n hS rfl rfl ?_
  refine jy_iload hS rfl rfl ?_
  refine jy_iconst hS rfl ?_
  refine jy_iadd hS rfl ?_
  refine jy_sld hS rfl (by omega) (by omega) ?_
  obtain ⟨Q1, QE1, hK2, m1, m2⟩ := mc_35 hV (a1 := (V.2.2.2.2.2.2.2 (i + 1).toNat).toInt) (a2 := (V.2.2.2.2.2.2.2 (i + 2).toNat).toInt) hM1 h.2.2.1 (jy_rng _) (jy_rng _)
  refine jy_callV hS rfl rfl rfl (Nat.le_of_ble_eq_true rfl) (Or.inl (MI_m hM1)) hK2 (by decide) ⟨Nat.zero_le _, Nat.zero_le _⟩ (Nat.le_of_ble_eq_true rfl) ?_ (fun _ _ _ _ q => (m2 _ _ _ q.2.2 : False).elim)
  rintro rv2 X2 I2 R2 ⟨e2, hq2⟩
  rw [e2]
  obtain ⟨eR, hf2, hM2, ht2, ⟨r, rfl⟩, hv2⟩ := comb_M ty_int hs1 (m1 _ _ _ hq2)
  rw [eR]
  have hL := LJ_2 hC1 x2 h.2.2.2 hg1 hf2 hM2
  change J 2376 [jy r] _ _ _ _ _
  refine jy_istore hS rfl (Nat.le_of_ble_eq_true rfl) (L' := [some (.ref V.2.2.2.2.2.1), some (.ref a), some (.ref (a + 147)), some (.ref u), some (jy i), some (jy w), some (jy r), none]) rfl ?_
  refine jy_aload_n hS rfl rfl ?_
  refine jy_callV hS rfl rfl rfl (Nat.le_of_ble_eq_true rfl) (Or.inl (MI_m hM2)) (cz_201 hV hM2.1 (QE := fun _ _ => False)) (by decide) ⟨Nat.zero_le _, Nat.zero_le _⟩ (Nat.le_of_ble_eq_true rfl) ?_ (fun _ _ _ _ q => q.2.2.2.elim)
  rintro rv3 X3 I3 R3 ⟨e3, e4, rfl, e5⟩
  rw [e3, e4, e5, ht2]
  change J 2382 [jy w] _ _ _ _ _
  refine jy_iload hS rfl rfl ?_
  refine jy_icmp_s hS rfl ?_
  refine jy_iload hS rfl rfl ?_
  refine jy_if_ne hS rfl (by omega) (fun h0 => ?_) (fun h0 => ?_)
  · refine jy_goto hS rfl ?_
    exact jy_join hS (k _ _ _ _ _ hL ⟨by (try dsimp only); omega, by (try dsimp only); omega⟩) rfl (jy_sub_s (jy_sub_s (jy_sub_s (jy_sub_s (jy_sub_s (jy_sub_n (jy_sub_n (jy_sub_n jy_sub_0))))))))
  · obtain ⟨hv3, hv4⟩ := hv2 h0
    have hv5 := Option.some.inj hv4
    rw [hv5]
    refine jy_aload_n hS rfl rfl ?_
    refine jy_iconst hS rfl ?_
    refine jy_lald hS rfl hL.2.2.2 (by decide) (by omega) ?_
    refine jy_iload hS rfl rfl ?_
    refine jy_i2l hS rfl rfl ?_
    refine jy_lcmp_s hS rfl hv3 ?_
    refine jy_if_0 hS rfl ?_
    refine jy_goto hS rfl ?_
    exact jy_join hS (k _ _ _ _ _ hL ⟨by (try dsimp only); omega, by (try dsimp only); omega⟩) rfl (jy_sub_s (jy_sub_s (jy_sub_s (jy_sub_s (jy_sub_s (jy_sub_n (jy_sub_n (jy_sub_n jy_sub_0))))))))
def cd_36 : List jx_row := [(2409, (.aload_n 1), 2410, 0, 0, 0), (2410, (.aload_n 0), 2411, 0, 0, 0), (2411, (.iload 4), 2413, 0, 0, 0), (2413, (.iconst 1), 2414, 0, 0, 0), (2414, .iadd, 2415, 0, 0, 0), (2415, .iaload, 2416, 0, 0, 0), (2416, (.aload_n 0), 2417, 0, 0, 0), (2417, (.iload 4), 2419, 0, 0, 0), (2419, (.iconst 2), 2420, 0, 0, 0), (2420, .iadd, 2421, 0, 0, 0), (2421, .iaload, 2422, 0, 0, 0), (2422, (.aload_n 0), 2423, 0, 0, 0), (2423, (.iload 4), 2425, 0, 0, 0), (2425, (.iconst 3), 2426, 0, 0, 0), (2426, .iadd, 2427, 0, 0, 0), (2427, .iaload, 2428, 0, 0, 0), (2428, (.aload_n 3), 2429, 0, 0, 0), (2429, (.invokestatic 277), 2432, 367, 5, 2), (2432, (.istore 5), 2434, 0, 0, 0), (2434, (.aload_n 2), 2435, 0, 0, 0), (2435, (.aload_n 0), 2436, 0, 0, 0), (2436, (.iload 4), 2438, 0, 0, 0), (2438, (.iconst 1), 2439, 0, 0, 0), (2439, .iadd, 2440, 0, 0, 0), (2440, .iaload, 2441, 0, 0, 0), (2441, (.aload_n 0), 2442, 0, 0, 0), (2442, (.iload 4), 2444, 0, 0, 0), (2444, (.iconst 2), 2445, 0, 0, 0), (2445, .iadd, 2446, 0, 0, 0), (2446, .iaload, 2447, 0, 0, 0), (2447, (.aload_n 0), 2448, 0, 0, 0), (2448, (.iload 4), 2450, 0, 0, 0), (2450, (.iconst 3), 2451, 0, 0, 0), (2451, .iadd, 2452, 0, 0, 0), (2452, .iaload, 2453, 0, 0, 0), (2453, (.invokevirtual 279), 2456, 318, 3, 0), (2456, (.istore 6), 2458, 0, 0, 0), (2458, (.aload_n 2), 2459, 0, 0, 0), (2459, (.invokevirtual 160), 2462, 201, 0, 0), (2462, (.iload 5), 2464, 0, 0, 0), (2464, (.if_icmp .eq 5), 2467, 2469, 0, 0), (2467, (.iconst 0), 2468, 0, 0, 0), (2468, .ireturn, 2469, 0, 0, 0), (2469, (.iload 5), 2471, 0, 0, 0), (2471, (.ifCond .ne 15), 2474, 2486, 0, 0), (2474, (.aload_n 3), 2475, 0, 0, 0), (2475, (.iconst 0), 2476, 0, 0, 0), (2476, .laload, 2477, 0, 0, 0), (2477, (.iload 6), 2479, 0, 0, 0), (2479, .i2l, 2480, 0, 0, 0), (2480, .lcmp, 2481, 0, 0, 0), (2481, (.ifCond .eq 5), 2484, 2486, 0, 0), (2484, (.iconst 0), 2485, 0, 0, 0), (2485, .ireturn, 2486, 0, 0, 0), (2486, (.goto 676), 2489, 3162, 0, 0)]
theorem cs_36 : cd_36.all (fun q => decide (jx_at jx_c377 q.1 = some q.2)) = true := by decide +kernel
theorem oe_i_36 {s : YZ} {a1 : Int} {a2 : Int} {a3 : Int} : ∀ k w, oe_36 s a1 a2 a3 = some (k, w) → (k, w) ∈ [((0 : Nat), (1 : Int)), ((1 : Nat), (2 : Int))] := by
  unfold oe_36
  exact nzw_i (by decide) (nzw_i (by decide) (fun _ _ h => by cases h))
set_option maxRecDepth 20000 in
theorem cl_36 {V : jx_V} (hV : V.1.stackTraces = false) {rt : Option FieldType} {J : jx_Jt} {KR : Option Value → Nat × Nat → jx_X → jx_I → jx_R → Prop} {KX : String → Nat × Nat → jx_X → jx_I → jx_R → Prop} (hS : jx_Snd V 205 rt [] false jx_c377 J KR KX) {X : jx_X} {R : jx_R} {I : jx_I} {a u : Nat} {s : YZ} {i : Int} {b : Nat × Nat} (h : LJ X R I a u s) (hi : 0 ≤ i ∧ i + 6 ≤ (V.2.2.2.2.2.2.1 : Nat)) (hn : V.2.2.2.2.2.2.1 ≤ 3072) (hb : 4 ≤ b.1 ∧ 24 ≤ b.2)
    (k : ∀ (X' : jx_X) (I' : jx_I) (R' : jx_R) (s' : YZ) (b' : Nat × Nat), LJ X' R' I' a u s' → b.1 ≤ b'.1 + 4 ∧ b.2 ≤ b'.2 + 24 → J 3162 [] [some (.ref V.2.2.2.2.2.1), some (.ref a), some (.ref (a + 147)), some (.ref u), some (jy i), none, none, none] b' X' I' R') : J 2409 [] [some (.ref V.2.2.2.2.2.1), some (.ref a), some (.ref (a + 147)), some (.ref u), some (jy i), none, none, none] b X I R := by
  have hS := jx_piece hS cs_36
  refine jy_aload_n hS rfl rfl ?_
  refine jy_aload_n hS rfl rfl ?_
  refine jy_iload hS rfl rfl ?_
  refine jy_iconst hS rfl ?_
  refine jy_iadd hS rfl ?_
  refine jy_sld hS rfl (by omega) (by omega) ?_
  refine jy_aload_n hS rfl rfl ?_
  refine jy_iload hS rfl rfl ?_
  refine jy_iconst hS rfl ?_
  refine jy_iadd hS rfl ?_
  refine jy_sld hS rfl (by omega) (by omega) ?_
  refine jy_aload_n hS rfl rfl ?_
  refine jy_iload hS rfl rfl ?_
  refine jy_iconst hS rfl ?_
  refine jy_iadd hS rfl ?_
  refine jy_sld hS rfl (by omega) (by omega) ?_
  refine jy_aload_n hS rfl rfl ?_
  refine jy_callS hS rfl rfl rfl (Nat.le_of_ble_eq_true rfl) (wr_36 hV (LJ_a h) h.2.2.2 (kc_36 hV (a1 := (V.2.2.2.2.2.2.2 (i + 1).toNat).toInt) (a2 := (V.2.2.2.2.2.2.2 (i + 2).toNat).toInt) (a3 := (V.2.2.2.2.2.2.2 (i + 3).toNat).toInt) h.1 h.2.2.1 (jy_rng _) (jy_rng _) (jy_rng _)) oe_i_36) (by decide) ⟨by (try dsimp only); omega, by (try dsimp only); omega⟩ (Nat.le_of_ble_eq_true rfl) ?_ (fun _ _ _ _ q => q.elim)
  rintro rv X1 I1 R1 ⟨x1, x2, hq⟩
  obtain ⟨w, s1, rfl, hC1, hg1, hf1, hs1⟩ := comb_A oe_i_36 (by decide) h.2.2.1 hq
  have hw := SO_rng hs1
  have hM1 := MI_B h.2.1 h.2.2.1 x2 hf1
  change J 2432 [jy w] _ _ _ _ _
  refine jy_istore hS rfl (Nat.le_of_ble_eq_true rfl) (L' := [some (.ref V.2.2.2.2.2.1), some (.ref a), some (.ref (a + 147)), some (.ref u), some (jy i), some (jy w), none, none]) rfl ?_
  refine jy_aload_n hS rfl rfl ?_
  refine jy_aload_n hS rfl rfl ?_
  refine jy_iload hS rfl rfl ?_
  refine jy_iconst hS rfl ?_
  refine jy_iadd hS rfl ?_
  refine jy_sld hS rfl (by omega) (by omega) ?_
  refine jy_aload_n hS rfl rfl ?_
  refine jy_iload hS rfl rfl ?_
  refine jy_iconst hS rfl ?_
  refine jy_iadd hS rfl ?_
  refine jy_sld hS rfl (by omega) (by omega) ?_
  refine jy_aload_n hS rfl rfl ?_
  refine jy_iload hS rfl rfl ?_
  refine jy_iconst hS rfl ?_
  refine jy_iadd hS rfl ?_
  refine jy_sld hS rfl (by omega) (by omega) ?_
  obtain ⟨Q1, QE1, hK2, m1, m2⟩ := mc_36 hV (a1 := (V.2.2.2.2.2.2.2 (i + 1).toNat).toInt) (a2 := (V.2.2.2.2.2.2.2 (i + 2).toNat).toInt) (a3 := (V.2.2.2.2.2.2.2 (i + 3).toNat).toInt) hM1 h.2.2.1 (jy_rng _) (jy_rng _) (jy_rng _)
  refine jy_callV hS rfl rfl rfl (Nat.le_of_ble_eq_true rfl) (Or.inl (MI_m hM1)) hK2 (by decide) ⟨Nat.zero_le _, Nat.zero_le _⟩ (Nat.le_of_ble_eq_true rfl) ?_ (fun _ _ _ _ q => (m2 _ _ _ q.2.2 : False).elim)
  rintro rv2 X2 I2 R2 ⟨e2, hq2⟩
  rw [e2]
  obtain ⟨eR, hf2, hM2, ht2, ⟨r, rfl⟩, hv2⟩ := comb_M ty_int hs1 (m1 _ _ _ hq2)
  rw [eR]
  have hL := LJ_2 hC1 x2 h.2.2.2 hg1 hf2 hM2
  change J 2456 [jy r] _ _ _ _ _
  refine jy_istore hS rfl (Nat.le_of_ble_eq_true rfl) (L' := [some (.ref V.2.2.2.2.2.1), some (.ref a), some (.ref (a + 147)), some (.ref u), some (jy i), some (jy w), some (jy r), none]) rfl ?_
  refine jy_aload_n hS rfl rfl ?_
  refine jy_callV hS rfl rfl rfl (Nat.le_of_ble_eq_true rfl) (Or.inl (MI_m hM2)) (cz_201 hV hM2.1 (QE := fun _ _ => False)) (by decide) ⟨Nat.zero_le _, Nat.zero_le _⟩ (Nat.le_of_ble_eq_true rfl) ?_ (fun _ _ _ _ q => q.2.2.2.elim)
  rintro rv3 X3 I3 R3 ⟨e3, e4, rfl, e5⟩
  rw [e3, e4, e5, ht2]
  change J 2462 [jy w] _ _ _ _ _
  refine jy_iload hS rfl rfl ?_
  refine jy_icmp_s hS rfl ?_
  refine jy_iload hS rfl rfl ?_
  refine jy_if_ne hS rfl (by omega) (fun h0 => ?_) (fun h0 => ?_)
  · refine jy_goto hS rfl ?_
    exact jy_join hS (k _ _ _ _ _ hL ⟨by (try dsimp only); omega, by (try dsimp only); omega⟩) rfl (jy_sub_s (jy_sub_s (jy_sub_s (jy_sub_s (jy_sub_s (jy_sub_n (jy_sub_n (jy_sub_n jy_sub_0))))))))
  · obtain ⟨hv3, hv4⟩ := hv2 h0
    have hv5 := Option.some.inj hv4
    rw [hv5]
    refine jy_aload_n hS rfl rfl ?_
    refine jy_iconst hS rfl ?_
    refine jy_lald hS rfl hL.2.2.2 (by decide) (by omega) ?_
    refine jy_iload hS rfl rfl ?_
    refine jy_i2l hS rfl rfl ?_
    refine jy_lcmp_s hS rfl hv3 ?_
    refine jy_if_0 hS rfl ?_
    refine jy_goto hS rfl ?_
    exact jy_join hS (k _ _ _ _ _ hL ⟨by (try dsimp only); omega, by (try dsimp only); omega⟩) rfl (jy_sub_s (jy_sub_s (jy_sub_s (jy_sub_s (jy_sub_s (jy_sub_n (jy_sub_n (jy_sub_n jy_sub_0))))))))
def cd_37 : List jx_row := [(2489, (.aload_n 1), 2490, 0, 0, 0), (2490, (.aload_n 0), 2491, 0, 0, 0), (2491, (.iload 4), 2493, 0, 0, 0), (2493, (.iconst 1), 2494, 0, 0, 0), (2494, .iadd, 2495, 0, 0, 0), (2495, .iaload, 2496, 0, 0, 0), (2496, (.aload_n 0), 2497, 0, 0, 0), (2497, (.iload 4), 2499, 0, 0, 0), (2499, (.iconst 2), 2500, 0, 0, 0), (2500, .iadd, 2501, 0, 0, 0), (2501, .iaload, 2502, 0, 0, 0), (2502, (.aload_n 3), 2503, 0, 0, 0), (2503, (.invokestatic 280), 2506, 368, 4, 2), (2506, (.istore 5), 2508, 0, 0, 0), (2508, (.aload_n 2), 2509, 0, 0, 0), (2509, (.aload_n 0), 2510, 0, 0, 0), (2510, (.iload 4), 2512, 0, 0, 0), (2512, (.iconst 1), 2513, 0, 0, 0), (2513, .iadd, 2514, 0, 0, 0), (2514, .iaload, 2515, 0, 0, 0), (2515, (.aload_n 0), 2516, 0, 0, 0), (2516, (.iload 4), 2518, 0, 0, 0), (2518, (.iconst 2), 2519, 0, 0, 0), (2519, .iadd, 2520, 0, 0, 0), (2520, .iaload, 2521, 0, 0, 0), (2521, (.invokevirtual 282), 2524, 319, 2, 0), (2524, (.istore 6), 2526, 0, 0, 0), (2526, (.aload_n 2), 2527, 0, 0, 0), (2527, (.invokevirtual 160), 2530, 201, 0, 0), (2530, (.iload 5), 2532, 0, 0, 0), (2532, (.if_icmp .eq 5), 2535, 2537, 0, 0), (2535, (.iconst 0), 2536, 0, 0, 0), (2536, .ireturn, 2537, 0, 0, 0), (2537, (.iload 5), 2539, 0, 0, 0), (2539, (.ifCond .ne 15), 2542, 2554, 0, 0), (2542, (.aload_n 3), 2543, 0, 0, 0), (2543, (.iconst 0), 2544, 0, 0, 0), (2544, .laload, 2545, 0, 0, 0), (2545, (.iload 6), 2547, 0, 0, 0), (2547, .i2l, 2548, 0, 0, 0), (2548, .lcmp, 2549, 0, 0, 0), (2549, (.ifCond .eq 5), 2552, 2554, 0, 0), (2552, (.iconst 0), 2553, 0, 0, 0), (2553, .ireturn, 2554, 0, 0, 0), (2554, (.goto 608), 2557, 3162, 0, 0)]
theorem cs_37 : cd_37.all (fun q => decide (jx_at jx_c377 q.1 = some q.2)) = true := by decide +kernel
theorem oe_i_37 {s : YZ} {a1 : Int} {a2 : Int} : ∀ k w, oe_37 s a1 a2 = some (k, w) → (k, w) ∈ [((0 : Nat), (1 : Int))] := by
  unfold oe_37
  exact nzw_i (by decide) (fun _ _ h => by cases h)
set_option maxRecDepth 20000 in
theorem cl_37 {V : jx_V} (hV : V.1.stackTraces = false) {rt : Option FieldType} {J : jx_Jt} {KR : Option Value → Nat × Nat → jx_X → jx_I → jx_R → Prop} {KX : String → Nat × Nat → jx_X → jx_I → jx_R → Prop} (hS : jx_Snd V 205 rt [] false jx_c377 J KR KX) {X : jx_X} {R : jx_R} {I : jx_I} {a u : Nat} {s : YZ} {i : Int} {b : Nat × Nat} (h : LJ X R I a u s) (hi : 0 ≤ i ∧ i + 6 ≤ (V.2.2.2.2.2.2.1 : Nat)) (hn : V.2.2.2.2.2.2.1 ≤ 3072) (hb : 4 ≤ b.1 ∧ 24 ≤ b.2)
    (k : ∀ (X' : jx_X) (I' : jx_I) (R' : jx_R) (s' : YZ) (b' : Nat × Nat), LJ X' R' I' a u s' → b.1 ≤ b'.1 + 4 ∧ b.2 ≤ b'.2 + 24 → J 3162 [] [some (.ref V.2.2.2.2.2.1), some (.ref a), some (.ref (a + 147)), some (.ref u), some (jy i), none, none, none] b' X' I' R') : J 2489 [] [some (.ref V.2.2.2.2.2.1), some (.ref a), some (.ref (a + 147)), some (.ref u), some (jy i), none, none, none] b X I R := by
  have hS := jx_piece hS cs_37
  refine jy_aload_n hS rfl rfl ?_
  refine jy_aload_n hS rfl rfl ?_
  refine jy_iload hS rfl rfl ?_
  refine jy_iconst hS rfl ?_
  refine jy_iadd hS rfl ?_
  refine jy_sld hS rfl (by omega) (by omega) ?_
  refine jy_aload_n hS rfl rfl ?_
  refine jy_iload hS rfl rfl ?_
  refine jy_iconst hS rfl ?_
  refine jy_iadd hS rfl ?_
  refine jy_sld hS rfl (by omega) (by omega) ?_
  refine jy_aload_n hS rfl rfl ?_
  refine jy_callS hS rfl rfl rfl (Nat.le_of_ble_eq_true rfl) (wr_37 hV (LJ_a h) h.2.2.2 (kc_37 hV (a1 := (V.2.2.2.2.2.2.2 (i + 1).toNat).toInt) (a2 := (V.2.2.2.2.2.2.2 (i + 2).toNat).toInt) h.1 h.2.2.1 (jy_rng _) (jy_rng _)) oe_i_37) (by decide) ⟨by (try dsimp only); omega, by (try dsimp only); omega⟩ (Nat.le_of_ble_eq_true rfl) ?_ (fun _ _ _ _ q => q.elim)
  rintro rv X1 I1 R1 ⟨x1, x2, hq⟩
  obtain ⟨w, s1, rfl, hC1, hg1, hf1, hs1⟩ := comb_A oe_i_37 (by decide) h.2.2.1 hq
  have hw := SO_rng hs1
  have hM1 := MI_B h.2.1 h.2.2.1 x2 hf1
  change J 2506 [jy w] _ _ _ _ _
  refine jy_istore hS rfl (Nat.le_of_ble_eq_true rfl) (L' := [some (.ref V.2.2.2.2.2.1), some (.ref a), some (.ref (a + 147)), some (.ref u), some (jy i), some (jy w), none, none]) rfl ?_
  refine jy_aload_n hS rfl rfl ?_
  refine jy_aload_n hS rfl rfl ?_
  refine jy_iload hS rfl rfl ?_
  refine jy_iconst hS rfl ?_
  refine jy_iadd hS rfl ?_
  refine jy_sld hS rfl (by omega) (by omega) ?_
  refine jy_aload_n hS rfl rfl ?_
  refine jy_iload hS rfl rfl ?_
  refine jy_iconst hS rfl ?_
  refine jy_iadd hS rfl ?_
  refine jy_sld hS rfl (by omega) (by omega) ?_
  obtain ⟨Q1, QE1, hK2, m1, m2⟩ := mc_37 hV (a1 := (V.2.2.2.2.2.2.2 (i + 1).toNat).toInt) (a2 := (V.2.2.2.2.2.2.2 (i + 2).toNat).toInt) hM1 h.2.2.1 (jy_rng _) (jy_rng _)
  refine jy_callV hS rfl rfl rfl (Nat.le_of_ble_eq_true rfl) (Or.inl (MI_m hM1)) hK2 (by decide) ⟨Nat.zero_le _, Nat.zero_le _⟩ (Nat.le_of_ble_eq_true rfl) ?_ (fun _ _ _ _ q => (m2 _ _ _ q.2.2 : False).elim)
  rintro rv2 X2 I2 R2 ⟨e2, hq2⟩
  rw [e2]
  obtain ⟨eR, hf2, hM2, ht2, ⟨r, rfl⟩, hv2⟩ := comb_M ty_int hs1 (m1 _ _ _ hq2)
  rw [eR]
  have hL := LJ_2 hC1 x2 h.2.2.2 hg1 hf2 hM2
  change J 2524 [jy r] _ _ _ _ _
  refine jy_istore hS rfl (Nat.le_of_ble_eq_true rfl) (L' := [some (.ref V.2.2.2.2.2.1), some (.ref a), some (.ref (a + 147)), some (.ref u), some (jy i), some (jy w), some (jy r), none]) rfl ?_
  refine jy_aload_n hS rfl rfl ?_
  refine jy_callV hS rfl rfl rfl (Nat.le_of_ble_eq_true rfl) (Or.inl (MI_m hM2)) (cz_201 hV hM2.1 (QE := fun _ _ => False)) (by decide) ⟨Nat.zero_le _, Nat.zero_le _⟩ (Nat.le_of_ble_eq_true rfl) ?_ (fun _ _ _ _ q => q.2.2.2.elim)
  rintro rv3 X3 I3 R3 ⟨e3, e4, rfl, e5⟩
  rw [e3, e4, e5, ht2]
  change J 2530 [jy w] _ _ _ _ _
  refine jy_iload hS rfl rfl ?_
  refine jy_icmp_s hS rfl ?_
  refine jy_iload hS rfl rfl ?_
  refine jy_if_ne hS rfl (by omega) (fun h0 => ?_) (fun h0 => ?_)
  · refine jy_goto hS rfl ?_
    exact jy_join hS (k _ _ _ _ _ hL ⟨by (try dsimp only); omega, by (try dsimp only); omega⟩) rfl (jy_sub_s (jy_sub_s (jy_sub_s (jy_sub_s (jy_sub_s (jy_sub_n (jy_sub_n (jy_sub_n jy_sub_0))))))))
  · obtain ⟨hv3, hv4⟩ := hv2 h0
    have hv5 := Option.some.inj hv4
    rw [hv5]
    refine jy_aload_n hS rfl rfl ?_
    refine jy_iconst hS rfl ?_
    refine jy_lald hS rfl hL.2.2.2 (by decide) (by omega) ?_
    refine jy_iload hS rfl rfl ?_
    refine jy_i2l hS rfl rfl ?_
    refine jy_lcmp_s hS rfl hv3 ?_
    refine jy_if_0 hS rfl ?_
    refine jy_goto hS rfl ?_
    exact jy_join hS (k _ _ _ _ _ hL ⟨by (try dsimp only); omega, by (try dsimp only); omega⟩) rfl (jy_sub_s (jy_sub_s (jy_sub_s (jy_sub_s (jy_sub_s (jy_sub_n (jy_sub_n (jy_sub_n jy_sub_0))))))))
def cd_38 : List jx_row := [(2557, (.aload_n 1), 2558, 0, 0, 0), (2558, (.invokevirtual 283), 2561, 182, 0, 0), (2561, (.aload_n 2), 2562, 0, 0, 0), (2562, (.invokevirtual 286), 2565, 320, 0, 0), (2565, (.if_icmp .eq 597), 2568, 3162, 0, 0), (2568, (.iconst 0), 2569, 0, 0, 0), (2569, .ireturn, 2570, 0, 0, 0)]
theorem cs_38 : cd_38.all (fun q => decide (jx_at jx_c377 q.1 = some q.2)) = true := by decide +kernel
set_option maxRecDepth 20000 in
theorem cl_38 {V : jx_V} (hV : V.1.stackTraces = false) {rt : Option FieldType} {J : jx_Jt} {KR : Option Value → Nat × Nat → jx_X → jx_I → jx_R → Prop} {KX : String → Nat × Nat → jx_X → jx_I → jx_R → Prop} (hS : jx_Snd V 205 rt [] false jx_c377 J KR KX) {X : jx_X} {R : jx_R} {I : jx_I} {a u : Nat} {s : YZ} {i : Int} {b : Nat × Nat} (h : LJ X R I a u s) (hi : 0 ≤ i ∧ i + 6 ≤ (V.2.2.2.2.2.2.1 : Nat)) (hn : V.2.2.2.2.2.2.1 ≤ 3072) (hb : 4 ≤ b.1 ∧ 24 ≤ b.2)
    (k : ∀ (X' : jx_X) (I' : jx_I) (R' : jx_R) (s' : YZ) (b' : Nat × Nat), LJ X' R' I' a u s' → b.1 ≤ b'.1 + 4 ∧ b.2 ≤ b'.2 + 24 → J 3162 [] [some (.ref V.2.2.2.2.2.1), some (.ref a), some (.ref (a + 147)), some (.ref u), some (jy i), none, none, none] b' X' I' R') : J 2557 [] [some (.ref V.2.2.2.2.2.1), some (.ref a), some (.ref (a + 147)), some (.ref u), some (jy i), none, none, none] b X I R := by
  have hS := jx_piece hS cs_38
  refine jy_aload_n hS rfl rfl ?_
  obtain ⟨Q0, QE0, hK, k1, k2⟩ := kc_38 hV  h.1 h.2.2.1 
  refine jy_callV hS rfl rfl rfl (Nat.le_of_ble_eq_true rfl) (Or.inl (LJ_a h)) hK (by decide) ⟨Nat.zero_le _, Nat.zero_le _⟩ (Nat.le_of_ble_eq_true rfl) ?_ (fun _ _ _ _ q => (k2 _ _ _ q.2.2 : False).elim)
  rintro rv X1 I1 R1 ⟨e1, hq⟩
  rw [e1]
  obtain ⟨rfl, hC1, hg1, hf1⟩ := KQ_n (k1 _ _ _ hq)
  have hM1 := MI_B h.2.1 h.2.2.1 (X' := X) rfl hf1
  change J 2561 [jy (ov_38 s )] _ _ _ _ _
  refine jy_aload_n hS rfl rfl ?_
  obtain ⟨Q1, QE1, hK2, m1, m2⟩ := mc_38 hV  hM1 h.2.2.1 
  refine jy_callV hS rfl rfl rfl (Nat.le_of_ble_eq_true rfl) (Or.inl (MI_m hM1)) hK2 (by decide) ⟨Nat.zero_le _, Nat.zero_le _⟩ (Nat.le_of_ble_eq_true rfl) ?_ (fun _ _ _ _ q => (m2 _ _ _ q.2.2 : False).elim)
  rintro rv2 X2 I2 R2 ⟨e2, hq2⟩
  rw [e2]
  obtain ⟨eR, hf2, hM2, rfl⟩ := MQ_n (m1 _ _ _ hq2)
  rw [eR]
  have hL := LJ_2 hC1 (X' := X) rfl h.2.2.2 hg1 hf2 hM2
  change J 2565 [jy (ov_38 s ), jy (ov_38 s )] _ _ _ _ _
  refine jy_icmp_s hS rfl ?_
  exact jy_join hS (k _ _ _ _ _ hL ⟨by (try dsimp only); omega, by (try dsimp only); omega⟩) rfl (jy_sub_s (jy_sub_s (jy_sub_s (jy_sub_s (jy_sub_s (jy_sub_n (jy_sub_n (jy_sub_n jy_sub_0))))))))
