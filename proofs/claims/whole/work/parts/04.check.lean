/-! ===== the tables hold what the class files and the Statement's words say: decided by the kernel ===== -/
def jx_nm (z : Nat) : MethodName := (jx_m z).1
def jx_by (z : Nat) : ByteArray := (jx_m z).2.1
def jx_ml (z : Nat) : Nat := (jx_m z).2.2.1
def jx_rt (z : Nat) : Option FieldType := (jx_m z).2.2.2.1
def jx_ow (z : Nat) : Nat := (jx_m z).2.2.2.2
/-- the exception table of a method (empty: none) -/
def jx_hl : List (Nat × List (Nat × Nat × Nat × Nat)) → Nat → List (Nat × Nat × Nat × Nat)
  | [], _ => []
  | q :: l, z => match Nat.beq q.1 z with
    | true => q.2
    | false => jx_hl l z
def jx_hz (z : Nat) : List (Nat × Nat × Nat × Nat) := jx_hl jx_hh z
/-- parameters -/
def jx_na (z : Nat) : Nat := match parseMethodDescriptor (jx_nm z).desc with
  | some d => d.parameters.length
  | none => 999
def jx_len : Instr → Nat
  | .iload _ => 2 | .istore _ => 2 | .aload _ => 2 | .astore _ => 2 | .lload _ => 2 | .lstore _ => 2 | .bipush _ => 2 | .ldc _ => 2 | .newarray _ => 2
  | .sipush _ => 3 | .ldc_w _ => 3 | .ldc2_w _ => 3 | .iinc _ _ => 3 | .ifCond _ _ => 3 | .if_icmp _ _ => 3 | .goto _ => 3 | .getfield _ => 3 | .putfield _ => 3 | .getstatic _ => 3
  | .invokevirtual _ => 3 | .invokestatic _ => 3 | .invokespecial _ => 3 | .new _ => 3 | .anewarray _ => 3 | .multianewarray _ _ => 4
  | _ => 1
def jx_any3 (l : List (Nat × Nat × Nat × Nat)) (a b c : Nat) : Bool := l.any (fun e => Nat.beq e.1 a && (Nat.beq e.2.1 b && Nat.beq e.2.2.1 c))
def jx_flk (o i ci k : Nat) : Bool := jx_flt.any (fun e => Nat.beq e.1 o && (Nat.beq e.2.1 i && (Nat.beq e.2.2.1 ci && Nat.beq e.2.2.2.1 k)))
def jx_fk (ci k : Nat) : Nat := (jx_fks.getD ci []).getD k 9
def jx_fn (ci : Nat) : Nat := (jx_fks.getD ci []).length
def jx_exe (e : Nat) : String × Nat × Nat × Nat × Nat := jx_ext.getD e ("", 0, 0, 0, 0)
def jx_lop (o pc : Nat) (ins : Instr) (r1 r2 r3 : Nat) (cc : ByteArray) : Bool := match ins with
  | .getfield i => (Nat.beq r1 50 && (Nat.beq o 16 && ((Nat.beq i 9 && Nat.beq r2 0) || (Nat.beq i 15 && Nat.beq r2 1)))) || (Nat.ble r1 12 && jx_flk o i r1 r2 && Nat.ble (r2 + 1) (jx_fn r1))
  | .putfield i => Nat.ble r1 12 && jx_flk o i r1 r2 && Nat.ble (r2 + 1) (jx_fn r1)
  | .invokevirtual i => ((Nat.beq r3 0 && jx_any3 jx_mlt o i r1) || (Nat.beq r3 1 && jx_any3 jx_mln o i r1)) && Nat.beq r2 (jx_na r1)
  | .invokestatic i => (Nat.beq r3 2 && jx_any3 jx_mlt o i r1 && Nat.beq r2 (jx_na r1)) || (Nat.beq r3 6 && jx_ac.any (fun e => Nat.beq e.1 o && Nat.beq e.2.1 i)) || Nat.beq r3 9
  | .invokespecial i => (Nat.beq r3 3 && jx_any3 jx_mlt o i r1 && Nat.beq r2 (jx_na r1)) || (Nat.beq r3 4 && jx_any3 jx_mln o i r1 && Nat.beq r2 (jx_na r1)) || (Nat.beq r3 5 && jx_oi.any (fun e => Nat.beq e.1 o && Nat.beq e.2.1 i))
  | .ldc i => (Nat.beq r1 0 && Nat.beq (jx_cst.getD r2 (99, 0, 0, 0)).1 o && Nat.beq (jx_cst.getD r2 (99, 0, 0, 0)).2.1 i) || (Nat.beq r1 1 && Nat.beq (jx_str.getD r2 (99, 0, "", 0)).1 o && Nat.beq (jx_str.getD r2 (99, 0, "", 0)).2.1 i)
  | .ldc_w i => Nat.beq r1 0 && Nat.beq (jx_cst.getD r2 (99, 0, 0, 0)).1 o && Nat.beq (jx_cst.getD r2 (99, 0, 0, 0)).2.1 i
  | .ldc2_w i => Nat.beq (jx_lcst.getD r1 (99, 0, 0, 0)).1 o && Nat.beq (jx_lcst.getD r1 (99, 0, 0, 0)).2.1 i
  | .new i => (Nat.ble r1 12 && jx_any3 jx_clt o i r1 && Nat.beq r2 (jx_fn r1)) || (Nat.ble 100 r1 && Nat.beq o 11 && Nat.beq (jx_exe (r1 - 100)).2.1 i && decide (decode cc (pc + 3) = .ok (.dup, 1)) && decide (decode cc (pc + 4) = .ok (.ldc_w (jx_exe (r1 - 100)).2.2.1, 3)) && decide (decode cc (pc + 7) = .ok (.invokespecial (jx_exe (r1 - 100)).2.2.2.1, 3)) && decide (decode cc (pc + 10) = .ok (.athrow, 1)))
  | .ifCond _ off => decide ((pc : Int) + off = (r1 : Int))
  | .if_icmp _ off => decide ((pc : Int) + off = (r1 : Int))
  | .goto off => decide ((pc : Int) + off = (r1 : Int))
  | .lookupswitch _ ps => (ps.toList.zip (ps.toList.drop 1)).all (fun (a, next) => a.1 < next.1)
  | .anewarray i => (Nat.beq o 0 && Nat.beq i 9 && Nat.beq r1 102) || (Nat.beq o 11 && Nat.beq i 20 && Nat.beq r1 103)
  | .newarray t => match t with
    | .int => Nat.beq r1 100
    | .long => Nat.beq r1 101
    | _ => false
  | .getstatic i => Nat.beq o 16 && ((Nat.beq i 38 && Nat.beq r1 0) || (Nat.beq i 1053 && Nat.beq r1 1))
  | _ => true
def jx_sw : Instr → Bool
  | .tableswitch .. => true
  | .lookupswitch .. => true
  | _ => false
def jx_chk (cc : ByteArray) (o : Nat) (q : jx_row) : Bool :=
  decide (decode cc q.1 = .ok (q.2.1, q.2.2.1 - q.1)) && (jx_sw q.2.1 || Nat.beq q.2.2.1 (q.1 + jx_len q.2.1)) && Nat.ble q.1 q.2.2.1 && jx_lop o q.1 q.2.1 q.2.2.2.1 q.2.2.2.2.1 q.2.2.2.2.2 cc
def jx_okz (z : Nat) : Bool := (jx_code z).all (jx_chk (jx_by z) (jx_ow z))
theorem jx_ok_0 : (List.range' 0 32).all jx_okz = true := by decide +kernel
theorem jx_ok_1 : (List.range' 32 32).all jx_okz = true := by decide +kernel
theorem jx_ok_2 : (List.range' 64 32).all jx_okz = true := by decide +kernel
theorem jx_ok_3 : (List.range' 96 32).all jx_okz = true := by decide +kernel
theorem jx_ok_4 : (List.range' 128 32).all jx_okz = true := by decide +kernel
theorem jx_ok_5 : (List.range' 160 32).all jx_okz = true := by decide +kernel
theorem jx_ok_6 : (List.range' 192 32).all jx_okz = true := by decide +kernel
theorem jx_ok_7 : (List.range' 224 32).all jx_okz = true := by decide +kernel
theorem jx_ok_8 : (List.range' 256 32).all jx_okz = true := by decide +kernel
theorem jx_ok_9 : (List.range' 288 32).all jx_okz = true := by decide +kernel
theorem jx_ok_10 : (List.range' 320 32).all jx_okz = true := by decide +kernel
theorem jx_ok_11 : (List.range' 352 25).all jx_okz = true := by decide +kernel
theorem jx_ok_law : jx_c377.all (jx_chk code 13) = true := by decide +kernel
theorem jx_ok (z : Nat) (h : z < 377) : jx_okz z = true := by
  by_cases h0 : z < 32
  · exact List.all_eq_true.mp jx_ok_0 z (List.mem_range'_1.mpr ⟨by omega, by omega⟩)
  by_cases h1 : z < 64
  · exact List.all_eq_true.mp jx_ok_1 z (List.mem_range'_1.mpr ⟨by omega, by omega⟩)
  by_cases h2 : z < 96
  · exact List.all_eq_true.mp jx_ok_2 z (List.mem_range'_1.mpr ⟨by omega, by omega⟩)
  by_cases h3 : z < 128
  · exact List.all_eq_true.mp jx_ok_3 z (List.mem_range'_1.mpr ⟨by omega, by omega⟩)
  by_cases h4 : z < 160
  · exact List.all_eq_true.mp jx_ok_4 z (List.mem_range'_1.mpr ⟨by omega, by omega⟩)
  by_cases h5 : z < 192
  · exact List.all_eq_true.mp jx_ok_5 z (List.mem_range'_1.mpr ⟨by omega, by omega⟩)
  by_cases h6 : z < 224
  · exact List.all_eq_true.mp jx_ok_6 z (List.mem_range'_1.mpr ⟨by omega, by omega⟩)
  by_cases h7 : z < 256
  · exact List.all_eq_true.mp jx_ok_7 z (List.mem_range'_1.mpr ⟨by omega, by omega⟩)
  by_cases h8 : z < 288
  · exact List.all_eq_true.mp jx_ok_8 z (List.mem_range'_1.mpr ⟨by omega, by omega⟩)
  by_cases h9 : z < 320
  · exact List.all_eq_true.mp jx_ok_9 z (List.mem_range'_1.mpr ⟨by omega, by omega⟩)
  by_cases h10 : z < 352
  · exact List.all_eq_true.mp jx_ok_10 z (List.mem_range'_1.mpr ⟨by omega, by omega⟩)
  exact List.all_eq_true.mp jx_ok_11 z (List.mem_range'_1.mpr ⟨by omega, by omega⟩)
/-! words -/
theorem jx_flt_ok : jx_flt.all (fun e => decide (lw_tbl[e.2.2.2.2]? = some (.fieldLink (jx_cn e.1) e.2.1 ((vwCl.getD e.2.2.1 ("", TX0, 0)).2.1 e.2.2.2.1).1 ((vwCl.getD e.2.2.1 ("", TX0, 0)).2.1 e.2.2.2.1).2.1 ((vwCl.getD e.2.2.1 ("", TX0, 0)).2.1 e.2.2.2.1).2.2.1))) = true := by decide +kernel
theorem jx_mlt_ok : jx_mlt.all (fun e => decide (lw_tbl[e.2.2.2]? = some (.methodLink (jx_cn e.1) e.2.1 (jx_nm e.2.2.1)))) = true := by decide +kernel
theorem jx_mln_ok : jx_mln.all (fun e => decide (lw_tbl[e.2.2.2]? = some (.methodLinkNest (jx_cn e.1) e.2.1 (jx_nm e.2.2.1) RX11))) = true := by decide +kernel
theorem jx_oi_ok : jx_oi.all (fun e => decide (lw_tbl[e.2.2]? = some (.methodLink (jx_cn e.1) e.2.1 objectInit))) = true := by decide +kernel
theorem jx_ac_ok : jx_ac.all (fun e => decide (lw_tbl[e.2.2]? = some (.methodLink (jx_cn e.1) e.2.1 arraycopyName))) = true := by decide +kernel
theorem jx_cst_ok : jx_cst.all (fun e => decide (lw_tbl[e.2.2.2]? = some (.constant (jx_cn e.1) e.2.1 e.2.2.1))) = true := by decide +kernel
theorem jx_lcst_ok : jx_lcst.all (fun e => decide (lw_tbl[e.2.2.2]? = some (.constantLong (jx_cn e.1) e.2.1 e.2.2.1))) = true := by decide +kernel
theorem jx_str_ok : jx_str.all (fun e => decide (lw_tbl[e.2.2.2]? = some (.stringRef (jx_cn e.1) e.2.1 e.2.2.1))) = true := by decide +kernel
theorem jx_clt_ok : jx_clt.all (fun e => decide (lw_tbl[e.2.2.2]? = some (.classLink (jx_cn e.1) e.2.1 (jx_cn e.2.2.1)))) = true := by decide +kernel
theorem jx_ini_ok : jx_ini.all (fun e => decide (lw_tbl[e.2]? = some (.initialized (jx_cn e.1)))) = true ∧ (jx_ini.map (·.1)) = List.range 19 := by decide +kernel
def jx_code? (z : Nat) : Cond := match jx_hz z with
  | [] => .code (jx_nm z) (jx_by z) (jx_ml z) (jx_rt z)
  | hh => .codeWith (jx_nm z) (jx_by z) (jx_ml z) (jx_rt z) hh
theorem jx_mw_ok : jx_mw.all (fun e => decide (lw_tbl[e.2.1]? = some (if Nat.beq e.2.2.1 1 then .static (jx_nm e.1) else .instanceMethod (jx_nm e.1))) && decide (lw_tbl[e.2.2.2.1]? = some (jx_code? e.1)) && (Nat.beq e.2.2.2.2 9999999 || decide (lw_tbl[e.2.2.2.2]? = some (.selects (jx_cn (jx_ow e.1)) (jx_nm e.1) (jx_nm e.1)))) && decide ((jx_nm e.1).cls = jx_cn (jx_ow e.1)) && Nat.ble (jx_ow e.1) 18) = true ∧ (jx_mw.map (·.1)) = List.range 377 := by decide +kernel
