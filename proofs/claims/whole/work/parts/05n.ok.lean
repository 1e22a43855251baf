/-! ===== the tables hold what the class files say: decided by the kernel ===== -/
theorem jx_okl_33 : ((jx_c377.drop 1920).take 40).all (jx_chk code 13) = true := by decide +kernel
theorem jx_ok (z : Nat) (h : z < 377) : jx_okz z = true := by
  by_cases h0 : z < 8
  · exact List.all_eq_true.mp jx_ok_0 z (List.mem_range'_1.mpr ⟨by omega, by omega⟩)
  by_cases h1 : z < 19
  · exact List.all_eq_true.mp jx_ok_1 z (List.mem_range'_1.mpr ⟨by omega, by omega⟩)
  by_cases h2 : z < 26
  · exact List.all_eq_true.mp jx_ok_2 z (List.mem_range'_1.mpr ⟨by omega, by omega⟩)
  by_cases h3 : z < 35
  · exact List.all_eq_true.mp jx_ok_3 z (List.mem_range'_1.mpr ⟨by omega, by omega⟩)
  by_cases h4 : z < 49
  · exact List.all_eq_true.mp jx_ok_4 z (List.mem_range'_1.mpr ⟨by omega, by omega⟩)
  by_cases h5 : z < 56
  · exact List.all_eq_true.mp jx_ok_5 z (List.mem_range'_1.mpr ⟨by omega, by omega⟩)
  by_cases h6 : z < 61
  · exact List.all_eq_true.mp jx_ok_6 z (List.mem_range'_1.mpr ⟨by omega, by omega⟩)
  by_cases h7 : z < 67
  · exact List.all_eq_true.mp jx_ok_7 z (List.mem_range'_1.mpr ⟨by omega, by omega⟩)
  by_cases h8 : z < 81
  · exact List.all_eq_true.mp jx_ok_8 z (List.mem_range'_1.mpr ⟨by omega, by omega⟩)
  by_cases h9 : z < 88
  · exact List.all_eq_true.mp jx_ok_9 z (List.mem_range'_1.mpr ⟨by omega, by omega⟩)
  by_cases h10 : z < 95
  · exact List.all_eq_true.mp jx_ok_10 z (List.mem_range'_1.mpr ⟨by omega, by omega⟩)
  by_cases h11 : z < 106
  · exact List.all_eq_true.mp jx_ok_11 z (List.mem_range'_1.mpr ⟨by omega, by omega⟩)
  by_cases h12 : z < 119
  · exact List.all_eq_true.mp jx_ok_12 z (List.mem_range'_1.mpr ⟨by omega, by omega⟩)
  by_cases h13 : z < 128
  · exact List.all_eq_true.mp jx_ok_13 z (List.mem_range'_1.mpr ⟨by omega, by omega⟩)
  by_cases h14 : z < 134
  · exact List.all_eq_true.mp jx_ok_14 z (List.mem_range'_1.mpr ⟨by omega, by omega⟩)
  by_cases h15 : z < 142
  · exact List.all_eq_true.mp jx_ok_15 z (List.mem_range'_1.mpr ⟨by omega, by omega⟩)
  by_cases h16 : z < 156
  · exact List.all_eq_true.mp jx_ok_16 z (List.mem_range'_1.mpr ⟨by omega, by omega⟩)
  by_cases h17 : z < 164
  · exact List.all_eq_true.mp jx_ok_17 z (List.mem_range'_1.mpr ⟨by omega, by omega⟩)
  by_cases h18 : z < 169
  · exact List.all_eq_true.mp jx_ok_18 z (List.mem_range'_1.mpr ⟨by omega, by omega⟩)
  by_cases h19 : z < 177
  · exact List.all_eq_true.mp jx_ok_19 z (List.mem_range'_1.mpr ⟨by omega, by omega⟩)
  by_cases h20 : z < 184
  · exact List.all_eq_true.mp jx_ok_20 z (List.mem_range'_1.mpr ⟨by omega, by omega⟩)
  by_cases h21 : z < 198
  · exact List.all_eq_true.mp jx_ok_21 z (List.mem_range'_1.mpr ⟨by omega, by omega⟩)
  by_cases h22 : z < 202
  · exact List.all_eq_true.mp jx_ok_22 z (List.mem_range'_1.mpr ⟨by omega, by omega⟩)
  by_cases h23 : z < 213
  · exact List.all_eq_true.mp jx_ok_23 z (List.mem_range'_1.mpr ⟨by omega, by omega⟩)
  by_cases h24 : z < 222
  · exact List.all_eq_true.mp jx_ok_24 z (List.mem_range'_1.mpr ⟨by omega, by omega⟩)
  by_cases h25 : z < 224
  · exact List.all_eq_true.mp jx_ok_25 z (List.mem_range'_1.mpr ⟨by omega, by omega⟩)
  by_cases h26 : z < 229
  · exact List.all_eq_true.mp jx_ok_26 z (List.mem_range'_1.mpr ⟨by omega, by omega⟩)
  by_cases h27 : z < 235
  · exact List.all_eq_true.mp jx_ok_27 z (List.mem_range'_1.mpr ⟨by omega, by omega⟩)
  by_cases h28 : z < 241
  · exact List.all_eq_true.mp jx_ok_28 z (List.mem_range'_1.mpr ⟨by omega, by omega⟩)
  by_cases h29 : z < 247
  · exact List.all_eq_true.mp jx_ok_29 z (List.mem_range'_1.mpr ⟨by omega, by omega⟩)
  by_cases h30 : z < 254
  · exact List.all_eq_true.mp jx_ok_30 z (List.mem_range'_1.mpr ⟨by omega, by omega⟩)
  by_cases h31 : z < 258
  · exact List.all_eq_true.mp jx_ok_31 z (List.mem_range'_1.mpr ⟨by omega, by omega⟩)
  by_cases h32 : z < 266
  · exact List.all_eq_true.mp jx_ok_32 z (List.mem_range'_1.mpr ⟨by omega, by omega⟩)
  by_cases h33 : z < 269
  · exact List.all_eq_true.mp jx_ok_33 z (List.mem_range'_1.mpr ⟨by omega, by omega⟩)
  by_cases h34 : z < 273
  · exact List.all_eq_true.mp jx_ok_34 z (List.mem_range'_1.mpr ⟨by omega, by omega⟩)
  by_cases h35 : z < 274
  · exact List.all_eq_true.mp jx_ok_35 z (List.mem_range'_1.mpr ⟨by omega, by omega⟩)
  by_cases h36 : z < 278
  · exact List.all_eq_true.mp jx_ok_36 z (List.mem_range'_1.mpr ⟨by omega, by omega⟩)
  by_cases h37 : z < 281
  · exact List.all_eq_true.mp jx_ok_37 z (List.mem_range'_1.mpr ⟨by omega, by omega⟩)
  by_cases h38 : z < 284
  · exact List.all_eq_true.mp jx_ok_38 z (List.mem_range'_1.mpr ⟨by omega, by omega⟩)
  by_cases h39 : z < 286
  · exact List.all_eq_true.mp jx_ok_39 z (List.mem_range'_1.mpr ⟨by omega, by omega⟩)
  by_cases h40 : z < 289
  · exact List.all_eq_true.mp jx_ok_40 z (List.mem_range'_1.mpr ⟨by omega, by omega⟩)
  by_cases h41 : z < 296
  · exact List.all_eq_true.mp jx_ok_41 z (List.mem_range'_1.mpr ⟨by omega, by omega⟩)
  by_cases h42 : z < 302
  · exact List.all_eq_true.mp jx_ok_42 z (List.mem_range'_1.mpr ⟨by omega, by omega⟩)
  by_cases h43 : z < 306
  · exact List.all_eq_true.mp jx_ok_43 z (List.mem_range'_1.mpr ⟨by omega, by omega⟩)
  by_cases h44 : z < 308
  · exact List.all_eq_true.mp jx_ok_44 z (List.mem_range'_1.mpr ⟨by omega, by omega⟩)
  by_cases h45 : z < 314
  · exact List.all_eq_true.mp jx_ok_45 z (List.mem_range'_1.mpr ⟨by omega, by omega⟩)
  by_cases h46 : z < 318
  · exact List.all_eq_true.mp jx_ok_46 z (List.mem_range'_1.mpr ⟨by omega, by omega⟩)
  by_cases h47 : z < 322
  · exact List.all_eq_true.mp jx_ok_47 z (List.mem_range'_1.mpr ⟨by omega, by omega⟩)
  by_cases h48 : z < 327
  · exact List.all_eq_true.mp jx_ok_48 z (List.mem_range'_1.mpr ⟨by omega, by omega⟩)
  by_cases h49 : z < 348
  · exact List.all_eq_true.mp jx_ok_49 z (List.mem_range'_1.mpr ⟨by omega, by omega⟩)
  by_cases h50 : z < 367
  · exact List.all_eq_true.mp jx_ok_50 z (List.mem_range'_1.mpr ⟨by omega, by omega⟩)
  exact List.all_eq_true.mp jx_ok_51 z (List.mem_range'_1.mpr ⟨by omega, by omega⟩)
theorem jx_all_cut {α : Type} {f : α → Bool} (l : List α) (n k : Nat) (h1 : ((l.drop n).take k).all f = true) (h2 : (l.drop (n + k)).all f = true) : (l.drop n).all f = true := by
  rw [← List.take_append_drop k (l.drop n), List.all_append, List.drop_drop, h1, h2]
  rfl
theorem jx_ok_law : jx_c377.all (jx_chk code 13) = true := by
  have h34 : (jx_c377.drop 1960).all (jx_chk code 13) = true := by decide +kernel
  have h33 := jx_all_cut jx_c377 1920 40 jx_okl_33 h34
  have h32 := jx_all_cut jx_c377 1880 40 jx_okl_32 h33
  have h31 := jx_all_cut jx_c377 1840 40 jx_okl_31 h32
  have h30 := jx_all_cut jx_c377 1800 40 jx_okl_30 h31
  have h29 := jx_all_cut jx_c377 1760 40 jx_okl_29 h30
  have h28 := jx_all_cut jx_c377 1720 40 jx_okl_28 h29
  have h27 := jx_all_cut jx_c377 1680 40 jx_okl_27 h28
  have h26 := jx_all_cut jx_c377 1640 40 jx_okl_26 h27
  have h25 := jx_all_cut jx_c377 1600 40 jx_okl_25 h26
  have h24 := jx_all_cut jx_c377 1560 40 jx_okl_24 h25
  have h23 := jx_all_cut jx_c377 1520 40 jx_okl_23 h24
  have h22 := jx_all_cut jx_c377 1480 40 jx_okl_22 h23
  have h21 := jx_all_cut jx_c377 1440 40 jx_okl_21 h22
  have h20 := jx_all_cut jx_c377 1400 40 jx_okl_20 h21
  have h19 := jx_all_cut jx_c377 1360 40 jx_okl_19 h20
  have h18 := jx_all_cut jx_c377 1320 40 jx_okl_18 h19
  have h17 := jx_all_cut jx_c377 1280 40 jx_okl_17 h18
  have h16 := jx_all_cut jx_c377 1240 40 jx_okl_16 h17
  have h15 := jx_all_cut jx_c377 1200 40 jx_okl_15 h16
  have h14 := jx_all_cut jx_c377 1120 80 jx_okl_14 h15
  have h13 := jx_all_cut jx_c377 1040 80 jx_okl_13 h14
  have h12 := jx_all_cut jx_c377 960 80 jx_okl_12 h13
  have h11 := jx_all_cut jx_c377 880 80 jx_okl_11 h12
  have h10 := jx_all_cut jx_c377 800 80 jx_okl_10 h11
  have h9 := jx_all_cut jx_c377 720 80 jx_okl_9 h10
  have h8 := jx_all_cut jx_c377 640 80 jx_okl_8 h9
  have h7 := jx_all_cut jx_c377 560 80 jx_okl_7 h8
  have h6 := jx_all_cut jx_c377 480 80 jx_okl_6 h7
  have h5 := jx_all_cut jx_c377 400 80 jx_okl_5 h6
  have h4 := jx_all_cut jx_c377 320 80 jx_okl_4 h5
  have h3 := jx_all_cut jx_c377 240 80 jx_okl_3 h4
  have h2 := jx_all_cut jx_c377 160 80 jx_okl_2 h3
  have h1 := jx_all_cut jx_c377 80 80 jx_okl_1 h2
  have h0 := jx_all_cut jx_c377 0 80 jx_okl_0 h1
  exact h0
