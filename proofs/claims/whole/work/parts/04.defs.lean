/-! ===== the tables hold what the class files and the Statement's words say: decided by the kernel ===== -/
def jx_w (z : Nat) : Cond := jx_cw.getD z .tt
def jx_nmO (w : Cond) : MethodName := match w with
  | .code y _ _ _ => y
  | .codeWith y _ _ _ _ => y
  | _ => ⟨"", "", ""⟩
def jx_byO (w : Cond) : ByteArray := match w with
  | .code _ b _ _ => b
  | .codeWith _ b _ _ _ => b
  | _ => ⟨#[]⟩
def jx_mlO (w : Cond) : Nat := match w with
  | .code _ _ n _ => n
  | .codeWith _ _ n _ _ => n
  | _ => 0
def jx_rtO (w : Cond) : Option FieldType := match w with
  | .code _ _ _ r => r
  | .codeWith _ _ _ r _ => r
  | _ => none
def jx_hzO (w : Cond) : List (Nat × Nat × Nat × Nat) := match w with
  | .codeWith _ _ _ _ hh => hh
  | _ => []
def jx_nm (z : Nat) : MethodName := jx_nmO (jx_w z)
def jx_by (z : Nat) : ByteArray := jx_byO (jx_w z)
def jx_ml (z : Nat) : Nat := jx_mlO (jx_w z)
def jx_rt (z : Nat) : Option FieldType := jx_rtO (jx_w z)
/-- the exception table of a method (empty: none) -/
def jx_hz (z : Nat) : List (Nat × Nat × Nat × Nat) := jx_hzO (jx_w z)
def jx_ow (z : Nat) : Nat := jx_ows.getD z 99
/-- parameters -/
def jx_nas : List Nat := [2, 1, 0, 0, 1, 2, 1, 1, 0, 1, 1, 2, 2, 3, 2, 1, 3, 3, 1, 1, 2, 3, 0, 1, 0, 2, 1, 1, 1, 1, 1, 1, 1, 2, 1, 1, 2, 1, 3, 1, 2, 1, 1, 0, 0, 0, 2, 2, 2, 1, 1, 3, 4, 0, 0, 0, 3, 3, 3, 4, 3, 3, 1, 3, 1, 1, 1, 0, 0, 1, 1, 1, 1, 1, 1, 1, 1, 2, 3, 0, 0, 0, 0, 2, 2, 4, 2, 2, 0, 2, 2, 2, 1, 1, 2, 0, 1, 1, 2, 0, 0, 0, 1, 1, 1, 0, 2, 1, 1, 1, 0, 1, 1, 1, 0, 0, 0, 1, 2, 0, 0, 4, 4, 0, 3, 2, 0, 2, 2, 2, 4, 3, 3, 3, 0, 5, 1, 0, 1, 1, 2, 2, 2, 3, 3, 2, 2, 1, 1, 2, 2, 0, 2, 1, 1, 1, 1, 0, 0, 0, 1, 2, 4, 3, 1, 3, 2, 1, 1, 1, 1, 2, 2, 1, 2, 0, 1, 2, 1, 2, 3, 2, 0, 0, 0, 1, 1, 1, 1, 1, 2, 1, 1, 0, 0, 1, 1, 2, 3, 0, 0, 0, 3, 3, 2, 5, 1, 0, 2, 1, 2, 2, 0, 7, 7, 0, 7, 1, 1, 1, 0, 0, 0, 0, 2, 0, 0, 0, 1, 0, 0, 1, 1, 1, 1, 2, 2, 3, 3, 2, 2, 2, 1, 0, 1, 2, 1, 1, 1, 2, 1, 2, 1, 0, 0, 1, 2, 1, 0, 0, 1, 1, 1, 1, 1, 1, 0, 0, 1, 3, 1, 3, 1, 3, 3, 2, 1, 0, 1, 1, 1, 1, 2, 0, 1, 0, 1, 2, 2, 1, 2, 2, 4, 3, 2, 2, 2, 1, 2, 0, 0, 0, 0, 0, 0, 0, 1, 1, 0, 2, 1, 1, 1, 1, 1, 2, 1, 2, 3, 2, 0, 3, 2, 0, 0, 1, 1, 1, 2, 2, 0, 1, 0, 0, 2, 2, 3, 3, 3, 3, 4, 4, 5, 5, 4, 4, 3, 4, 4, 4, 3, 3, 3, 2, 5, 4, 3, 3, 3, 4, 3, 4, 3, 4, 6, 3, 4, 5, 4, 5, 3, 4, 4, 3, 4, 2, 3]
def jx_na (z : Nat) : Nat := jx_nas.getD z 999
def jx_len : Instr → Nat
  | .iload _ => 2 | .istore _ => 2 | .aload _ => 2 | .astore _ => 2 | .lload _ => 2 | .lstore _ => 2 | .bipush _ => 2 | .ldc _ => 2 | .newarray _ => 2
  | .sipush _ => 3 | .ldc_w _ => 3 | .ldc2_w _ => 3 | .iinc _ _ => 3 | .ifCond _ _ => 3 | .if_icmp _ _ => 3 | .goto _ => 3 | .getfield _ => 3 | .putfield _ => 3 | .getstatic _ => 3
  | .invokevirtual _ => 3 | .invokestatic _ => 3 | .invokespecial _ => 3 | .new _ => 3 | .anewarray _ => 3 | .multianewarray _ _ => 4
  | _ => 1
def jx_any3 (l : List (Nat × Nat × Nat × Nat)) (a b c : Nat) : Bool := l.any (fun e => Nat.beq e.1 a && (Nat.beq e.2.1 b && Nat.beq e.2.2.1 c))
def jx_flk (o i ci k : Nat) : Bool := jx_flt.any (fun e => Nat.beq e.1 o && (Nat.beq e.2.1 i && (Nat.beq e.2.2.1 ci && Nat.beq e.2.2.2.1 k)))
def jx_fk (ci k : Nat) : Nat := (jx_fks.getD ci []).getD k 9
def jx_fn (ci : Nat) : Nat := (jx_fks.getD ci []).length
def jx_exe (e : Nat) : String × Nat × Nat × Nat × Nat := jx_ext.getD e ("", 0, 0, 0, 0)
def jx_lop (o pc : Nat) (ins : Instr) (r1 r2 r3 : Nat) (cc : ByteArray) : Bool := match ins with
  | .getfield i => (Nat.beq r1 50 && (Nat.beq o 16 && ((Nat.beq i 9 && Nat.beq r2 0) || (Nat.beq i 15 && Nat.beq r2 1)))) || (Nat.ble r1 12 && jx_flk o i r1 r2 && Nat.ble (r2 + 1) (jx_fn r1))
  | .putfield i => Nat.ble r1 12 && jx_flk o i r1 r2 && Nat.ble (r2 + 1) (jx_fn r1)
  | .invokevirtual i => ((Nat.beq r3 0 && jx_any3 jx_mlt o i r1) || (Nat.beq r3 1 && jx_any3 jx_mln o i r1)) && Nat.beq r2 (jx_na r1)
  | .invokestatic i => (Nat.beq r3 2 && jx_any3 jx_mlt o i r1 && Nat.beq r2 (jx_na r1)) || (Nat.beq r3 6 && jx_ac.any (fun e => Nat.beq e.1 o && Nat.beq e.2.1 i)) || Nat.beq r3 9
  | .invokespecial i => (Nat.beq r3 3 && jx_any3 jx_mlt o i r1 && Nat.beq r2 (jx_na r1)) || (Nat.beq r3 4 && jx_any3 jx_mln o i r1 && Nat.beq r2 (jx_na r1)) || (Nat.beq r3 5 && jx_oi.any (fun e => Nat.beq e.1 o && Nat.beq e.2.1 i))
  | .ldc i => (Nat.beq r1 0 && Nat.beq (jx_cst.getD r2 (99, 0, 0, 0)).1 o && Nat.beq (jx_cst.getD r2 (99, 0, 0, 0)).2.1 i) || (Nat.beq r1 1 && Nat.beq (jx_str.getD r2 (99, 0, "", 0)).1 o && Nat.beq (jx_str.getD r2 (99, 0, "", 0)).2.1 i)
  | .ldc_w i => Nat.beq r1 0 && Nat.beq (jx_cst.getD r2 (99, 0, 0, 0)).1 o && Nat.beq (jx_cst.getD r2 (99, 0, 0, 0)).2.1 i
  | .ldc2_w i => Nat.beq (jx_lcst.getD r1 (99, 0, 0, 0)).1 o && Nat.beq (jx_lcst.getD r1 (99, 0, 0, 0)).2.1 i
  | .new i => (Nat.ble r1 12 && jx_any3 jx_clt o i r1 && Nat.beq r2 (jx_fn r1)) || (Nat.ble 100 r1 && Nat.beq o 11 && Nat.beq (jx_exe (r1 - 100)).2.1 i && decide (decode cc (pc + 3) = .ok (.dup, 1)) && decide (decode cc (pc + 4) = .ok (.ldc_w (jx_exe (r1 - 100)).2.2.1, 3)) && decide (decode cc (pc + 7) = .ok (.invokespecial (jx_exe (r1 - 100)).2.2.2.1, 3)) && decide (decode cc (pc + 10) = .ok (.athrow, 1)))
  | .ifCond _ off => decide ((pc : Int) + off = (r1 : Int))
  | .if_icmp _ off => decide ((pc : Int) + off = (r1 : Int))
  | .goto off => decide ((pc : Int) + off = (r1 : Int))
  | .lookupswitch _ ps => (ps.toList.zip (ps.toList.drop 1)).all (fun (a, next) => a.1 < next.1)
  | .anewarray i => (Nat.beq o 0 && Nat.beq i 9 && Nat.beq r1 102) || (Nat.beq o 11 && Nat.beq i 20 && Nat.beq r1 103)
  | .newarray t => match t with
    | .int => Nat.beq r1 100
    | .long => Nat.beq r1 101
    | _ => false
  | .getstatic i => Nat.beq o 16 && ((Nat.beq i 38 && Nat.beq r1 0) || (Nat.beq i 1053 && Nat.beq r1 1))
  | _ => true
def jx_sw : Instr → Bool
  | .tableswitch .. => true
  | .lookupswitch .. => true
  | _ => false
def jx_chk (cc : ByteArray) (o : Nat) (q : jx_row) : Bool :=
  decide (decode cc q.1 = .ok (q.2.1, q.2.2.1 - q.1)) && (jx_sw q.2.1 || Nat.beq q.2.2.1 (q.1 + jx_len q.2.1)) && Nat.ble q.1 q.2.2.1 && jx_lop o q.1 q.2.1 q.2.2.2.1 q.2.2.2.2.1 q.2.2.2.2.2 cc
def jx_okz (z : Nat) : Bool := (jx_code z).all (jx_chk (jx_by z) (jx_ow z))
