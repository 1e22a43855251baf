/-! ===== the objects of the program, as numbers: shapes, ints, longs, references, by address and place ===== -/
/-- the heap's size; what lies where: (kind, length); the longs. Kinds: 0 to 12 an object of that class of vwCl, 100 int[], 101 long[], 102 Row[], 103 State[], 104 int[][] -/
abbrev jx_X : Type := Nat × (Nat → Option (Nat × Nat)) × (Nat → Nat → Int64)
abbrev jx_I : Type := Nat → Nat → Int32
abbrev jx_R : Type := Nat → Nat → Option Nat
/-- what a launch and a start fix: the launch, classes and slots, array classes, the String constants and their bytes, the script -/
abbrev jx_V : Type := Launch × va_G × (Nat → ClassId) × (Nat → Nat) × (Nat → Nat) × Nat × Nat × (Nat → Int32)
def jx_u {α : Type} (f : Nat → Nat → α) (a k : Nat) (v : α) : Nat → Nat → α := fun b j => if b = a ∧ j = k then v else f b j
theorem jx_u_s {α : Type} (f : Nat → Nat → α) (a k : Nat) (v : α) : jx_u f a k v a k = v := if_pos ⟨rfl, rfl⟩
theorem jx_u_a {α : Type} (f : Nat → Nat → α) {a b : Nat} (k j : Nat) (v : α) (h : b ≠ a) : jx_u f a k v b j = f b j := if_neg (fun q => h q.1)
theorem jx_u_k {α : Type} (f : Nat → Nat → α) (a b : Nat) {k j : Nat} (v : α) (h : j ≠ k) : jx_u f a k v b j = f b j := if_neg (fun q => h q.2)
theorem jx_u_r {α : Type} (f : Nat → Nat → α) {a b : Nat} (k : Nat) (v : α) (h : b ≠ a) : jx_u f a k v b = f b := funext fun j => jx_u_a f k j v h
def jx_fs (ci a : Nat) (I : jx_I) (R : jx_R) : List Value := (List.range (jx_fn ci)).map (fun k => if jx_fk ci k = 1 then va_rf (R a k) else .int (I a k))
def jx_cell (V : jx_V) (sh : Nat × Nat) (a : Nat) (I : jx_I) (G : Nat → Nat → Int64) (R : jx_R) : va_E :=
  if sh.1 < 100 then .inr (sh.1, jx_fs sh.1 a I R)
  else if sh.1 = 100 then .inl (V.2.2.1 0, sh.2, .inl (I a))
  else if sh.1 = 101 then .inl (V.2.2.1 1, sh.2, .inr (.inl (G a)))
  else .inl (V.2.2.1 (sh.1 - 100), sh.2, .inr (.inr (.inr (.inr (R a)))))
def jx_Ra (V : jx_V) (X : jx_X) (I : jx_I) (R : jx_R) (H : Heap) : Prop := H.size = X.1 ∧ ∀ (a : Nat) (sh : Nat × Nat), X.2.1 a = some sh → va_at V.2.1 vwCl (a, jx_cell V sh a I X.2.2 R) H
def jx_A (X : jx_X) : Nat → Prop := fun q => X.2.1 q ≠ none ∨ X.1 ≤ q
def jx_tys (V : jx_V) : List (ClassId × FieldType) := [(V.2.2.1 0, .int), (V.2.2.1 1, .long), (V.2.2.1 2, .object RX5), (V.2.2.1 3, .object RX7), (V.2.2.1 4, .array .int)]
/-- words that the tables alone decide and that a start of a callee keeps -/
def jx_face : List Cond := lw_tbl.filter (fun w => w.onTables && w.keepsFace)
def jx_ss (i : Nat) : Nat × Nat × String × Nat := jx_str.getD i (99, 0, "", 0)
def jx_sb (i : Nat) : List Int32 := jx_byt.getD i []
/-- what holds of the launch and of the old cells, wherever the machine is (A: what may have changed) -/
def jx_E (V : jx_V) (A : Nat → Prop) (U : State) (H : Heap) : Prop :=
  va_K V.2.1 vwCl (jx_tys V) U ∧ ((∀ w ∈ jx_face, va_Nw w U) ∧ va_AO RX5 U ∧ va_AO RX7 U ∧ (Cond.arrayOver (.array .int)).before #[] U = true ∧ ∀ i j, i < 4 → j < 4 → i ≠ j → va_Nc (jx_exe i).1 (jx_exe j).1 U) ∧ (∀ e ∈ jx_mln, va_Nw (.methodLinkNest (jx_cn e.1) e.2.1 (jx_nm e.2.2.1) RX11) U) ∧
  (∀ i, i < 34 → vk_S 1 [(jx_sb i).length] [jx_sb i] (fun _ => V.2.2.2.1 i) (fun _ => V.2.2.2.2.1 i) A U H ∧ vk_R (jx_cn (jx_ss i).1) (jx_ss i).2.1 (jx_ss i).2.2.1 (V.2.2.2.1 i) U) ∧
  va_Z "java/lang/String" "COMPACT_STRINGS" "Z" (.int 1) A U H ∧ va_Zq "jdk/internal/util/Preconditions" "SIOOBE_FORMATTER" "Ljava/util/function/BiFunction;" A U H ∧
  vx_Zq Bundle.tN "UNASSIGNED_STACK" Bundle.steD A U H ∧ vx_Zq Bundle.tN "SUPPRESSED_SENTINEL" Bundle.listD A U H ∧
  va_X V.2.2.2.2.2.1 V.2.2.2.2.2.2.1 V.2.2.2.2.2.2.2 U H ∧ ¬ A V.2.2.2.2.2.1 ∧ V.2.2.2.2.2.1 < H.size
def jx_good : List Cond := lw_tbl.filter goodWord
def jx_ws (z : Nat) : List Cond := jx_w z :: jx_good
def jx_rm (d : Nat) (b : Nat × Nat) : Room := { frames := d, cells := b.1, slots := b.2, locals := 64 * d }
/-- a method's contract: from any state that holds (X, I, R) it returns with Post or throws with PX, at most b.1 cells of b.2 slots are new, frames and locals of depth d are enough -/
def jx_Met (V : jx_V) (d z : Nat) (b : Nat × Nat) (As : List Value) (X : jx_X) (I : jx_I) (R : jx_R) (Post : Option Value → jx_X → jx_I → jx_R → Prop) (PX : String → jx_X → jx_I → jx_R → Prop) : Prop :=
  vx_Met V.1 (jx_nm z) (jx_ws z) (jx_rm d b) (va_Pc As (fun U => jx_Ra V X I R U.heap ∧ jx_E V (jx_A X) U U.heap))
    (fun _ st o t => ∃ (rv : Option Value) (X' : jx_X) (I' : jx_I) (R' : jx_R), o = .returned rv ∧ Post rv X' I' R' ∧ jx_Ra V X' I' R' t.heap ∧ (∀ q, X'.2.1 q ≠ none → jx_A X q) ∧ va_F (jx_A X) st t)
    (fun E st t => ∃ (X' : jx_X) (I' : jx_I) (R' : jx_R), PX E X' I' R' ∧ jx_Ra V X' I' R' t.heap ∧ (∀ q, X'.2.1 q ≠ none → jx_A X q) ∧ va_F (jx_A X) st t)
    b.1 b.2 (jx_A X)
/-! locals by place -/
def jx_kl (L : List (Option Value)) : Nat → List (Option Value)
  | 0 => L
  | i + 1 => match L[i]? with
    | some (some v) => if v.category = 2 then L.set i none else L
    | _ => L
def jx_s1 (L : List (Option Value)) (i : Nat) (v : Value) : List (Option Value) := (jx_kl L i).set i (some v)
def jx_s2 (L : List (Option Value)) (i : Nat) (v : Value) : List (Option Value) := ((jx_kl L i).set i (some v)).set (i + 1) none
def jx_L (ls : Array Slot) (n : Nat) (L : List (Option Value)) : Prop := ls.size = n ∧ lv_wf ls ∧ ∀ (i : Nat) (v : Value), L[i]? = some (some v) → ls[i]? = some (.val v)
def jx_ent (n : Nat) (As : List Value) : List (Option Value) := let l := As.flatMap (fun v => if v.category = 2 then [some v, none] else [some v]); l ++ List.replicate (n - l.length) none
/-! code by place -/
def jx_at : List jx_row → Nat → Option (Instr × Nat × Nat × Nat × Nat)
  | [], _ => none
  | q :: l, pc => match Nat.beq q.1 pc with
    | true => some q.2
    | false => jx_at l pc
/-! what is on the stack -/
def jx_ki (st : List Value) (f : Int32 → List Value → Prop) : Prop := match st with
  | .int x :: st => f x st
  | _ => False
def jx_kii (st : List Value) (f : Int32 → Int32 → List Value → Prop) : Prop := match st with
  | .int y :: .int x :: st => f x y st
  | _ => False
def jx_kl1 (st : List Value) (f : Int64 → List Value → Prop) : Prop := match st with
  | .long x :: st => f x st
  | _ => False
def jx_kll (st : List Value) (f : Int64 → Int64 → List Value → Prop) : Prop := match st with
  | .long y :: .long x :: st => f x y st
  | _ => False
def jx_kil (st : List Value) (f : Int64 → Int32 → List Value → Prop) : Prop := match st with
  | .int y :: .long x :: st => f x y st
  | _ => False
def jx_kr (st : List Value) (f : Nat → List Value → Prop) : Prop := match st with
  | .ref a :: st => f a st
  | _ => False
def jx_kir (st : List Value) (f : Nat → Int32 → List Value → Prop) : Prop := match st with
  | .int i :: .ref a :: st => f a i st
  | _ => False
def jx_kiir (st : List Value) (f : Nat → Int32 → Int32 → List Value → Prop) : Prop := match st with
  | .int x :: .int i :: .ref a :: st => f a i x st
  | _ => False
def jx_klir (st : List Value) (f : Nat → Int32 → Int64 → List Value → Prop) : Prop := match st with
  | .long x :: .int i :: .ref a :: st => f a i x st
  | _ => False
def jx_krir (st : List Value) (f : Nat → Int32 → Nat → List Value → Prop) : Prop := match st with
  | .ref x :: .int i :: .ref a :: st => f a i x st
  | _ => False
def jx_kcopy (st : List Value) (f : Nat → Int32 → Nat → Int32 → Int32 → List Value → Prop) : Prop := match st with
  | .int n :: .int dp :: .ref b :: .int sp :: .ref a :: st => f a sp b dp n st
  | _ => False
def jx_cd (c : ClassFile.Cond) (x y : Int32) : Prop := match c with
  | .eq => x = y
  | .ne => x ≠ y
  | .lt => x < y
  | .ge => y ≤ x
  | .gt => y < x
  | .le => x ≤ y
/-- where a thrown E is caught in a table (E by its place in jx_ext): the handler -/
def jx_hf (hh : List (Nat × Nat × Nat × Nat)) (pc : Nat) (ct : Nat → String) (E : String) : Option Nat := match hh with
  | [] => none
  | x :: l => if x.1 ≤ pc ∧ pc < x.2.1 ∧ ct x.2.2.2 = E then some x.2.2.1 else jx_hf l pc ct E
/-- the classes that the law's tables name -/
def jx_ct (i : Nat) : String := match i with
  | 13 => "java/lang/IllegalArgumentException"
  | 21 => "java/lang/IndexOutOfBoundsException"
  | 30 => "java/util/NoSuchElementException"
  | 61 => "java/lang/IllegalStateException"
  | _ => ""
def jx_up (S : Nat → Option (Nat × Nat)) (a : Nat) (sh : Nat × Nat) : Nat → Option (Nat × Nat) := fun b => if b = a then some sh else S b
def jx_ups (S : Nat → Option (Nat × Nat)) (a n k : Nat) : Nat → Option (Nat × Nat) := fun b => if b = a then some (104, n) else if a < b ∧ b ≤ a + n then some (100, k) else S b
/-- zeros at a (and null) -/
def jx_z (I : jx_I) (a : Nat) : jx_I := fun b k => if b = a then 0 else I b k
def jx_z8 (G : Nat → Nat → Int64) (a : Nat) : Nat → Nat → Int64 := fun b k => if b = a then 0 else G b k
def jx_n (R : jx_R) (a : Nat) : jx_R := fun b k => if b = a then none else R b k
def jx_zs (I : jx_I) (a : Nat) : jx_I := fun b k => if a ≤ b then 0 else I b k
def jx_ns (R : jx_R) (a n : Nat) : jx_R := fun b k => if b = a then (if k < n then some (a + 1 + k) else none) else if a < b then none else R b k
def jx_cp (I : jx_I) (a q sp dp n : Nat) : jx_I := fun b k => if b = q ∧ dp ≤ k ∧ k < dp + n then I a (sp + (k - dp)) else I b k
/-- final fields -/
def jx_ff (ci k : Nat) : Bool := ((vwCl.getD ci ("", TX0, 0)).2.1 k).2.2.2
abbrev jx_Jt : Type := Nat → List Value → List (Option Value) → Nat × Nat → jx_X → jx_I → jx_R → Prop
def jx_kx (hh : List (Nat × Nat × Nat × Nat)) (J : jx_Jt) (KX : String → Nat × Nat → jx_X → jx_I → jx_R → Prop) (pc : Nat) (L : List (Option Value)) (b : Nat × Nat) (E : String) (X : jx_X) (I : jx_I) (R : jx_R) : Prop :=
  match hh with
  | [] => KX E b X I R
  | h0 :: hr => (∃ i, i < 4 ∧ E = (jx_exe i).1) ∧ match jx_hf (h0 :: hr) pc jx_ct E with
    | some h => ∀ q : Nat, J h [.ref q] L b X I R
    | none => KX E b X I R
def jx_call (V : jx_V) (d : Nat) (hh : List (Nat × Nat × Nat × Nat)) (J : jx_Jt) (KX : String → Nat × Nat → jx_X → jx_I → jx_R → Prop) (pc nx z : Nat) (As rest : List Value) (L : List (Option Value)) (b : Nat × Nat) (X : jx_X) (I : jx_I) (R : jx_R) : Prop :=
  ∃ (d' : Nat) (b' : Nat × Nat) (Post : Option Value → jx_X → jx_I → jx_R → Prop) (PX : String → jx_X → jx_I → jx_R → Prop), d' < d ∧ jx_Met V d' z b' As X I R Post PX ∧ b'.1 ≤ b.1 ∧ b'.2 ≤ b.2 ∧ (rest.map fun v => v.category).sum ≤ 8 ∧
    (∀ rv X' I' R', Post rv X' I' R' → J nx (rv.toList ++ rest) L (b.1 - b'.1, b.2 - b'.2) X' I' R') ∧ (∀ E X' I' R', PX E X' I' R' → jx_kx hh J KX pc L (b.1 - b'.1, b.2 - b'.2) E X' I' R')
def jx_rok (rt : Option FieldType) (x : Int32) : Prop := match rt with
  | some ty => narrow ty (.int x) = .int x
  | none => False
/-- what an instruction asks, for J to hold at its place -/
def jx_wp (V : jx_V) (d : Nat) (rt : Option FieldType) (hh : List (Nat × Nat × Nat × Nat)) (ini : Bool) (J : jx_Jt) (KR : Option Value → Nat × Nat → jx_X → jx_I → jx_R → Prop) (KX : String → Nat × Nat → jx_X → jx_I → jx_R → Prop) (pc : Nat) (ins : Instr) (nx r1 r2 r3 : Nat) (st : List Value) (L : List (Option Value)) (b : Nat × Nat) (X : jx_X) (I : jx_I) (R : jx_R) : Prop := match ins with
  | .iconst n => J nx (.int (Int32.ofInt n) :: st) L b X I R
  | .bipush n => J nx (.int (Int8.ofInt n).toInt32 :: st) L b X I R
  | .sipush n => J nx (.int (Int16.ofInt n).toInt32 :: st) L b X I R
  | .lconst n => J nx (.long (Int64.ofNat (n : Nat)) :: st) L b X I R
  | .ldc _ => (r1 = 0 ∧ J nx (.int (jx_cst.getD r2 (99, 0, 0, 0)).2.2.1 :: st) L b X I R) ∨ (r1 = 1 ∧ J nx (.ref (V.2.2.2.1 r2) :: st) L b X I R)
  | .ldc_w _ => J nx (.int (jx_cst.getD r2 (99, 0, 0, 0)).2.2.1 :: st) L b X I R
  | .ldc2_w _ => J nx (.long (jx_lcst.getD r1 (99, 0, 0, 0)).2.2.1 :: st) L b X I R
  | .aconst_null => J nx (.null :: st) L b X I R
  | .iload i => ∃ x, L[i]? = some (some (.int x)) ∧ J nx (.int x :: st) L b X I R
  | .iload_n i => ∃ x, L[(i : Nat)]? = some (some (.int x)) ∧ J nx (.int x :: st) L b X I R
  | .lload i => ∃ x, L[i]? = some (some (.long x)) ∧ J nx (.long x :: st) L b X I R
  | .lload_n i => ∃ x, L[(i : Nat)]? = some (some (.long x)) ∧ J nx (.long x :: st) L b X I R
  | .aload i => ∃ x, L[i]? = some (some (.ref x)) ∧ J nx (.ref x :: st) L b X I R
  | .aload_n i => ∃ x, L[(i : Nat)]? = some (some (.ref x)) ∧ J nx (.ref x :: st) L b X I R
  | .istore i => jx_ki st (fun x st => i < L.length ∧ J nx st (jx_s1 L i (.int x)) b X I R)
  | .istore_n i => jx_ki st (fun x st => (i : Nat) < L.length ∧ J nx st (jx_s1 L i (.int x)) b X I R)
  | .lstore i => jx_kl1 st (fun x st => i + 1 < L.length ∧ J nx st (jx_s2 L i (.long x)) b X I R)
  | .lstore_n i => jx_kl1 st (fun x st => (i : Nat) + 1 < L.length ∧ J nx st (jx_s2 L i (.long x)) b X I R)
  | .astore i => jx_kr st (fun x st => i < L.length ∧ J nx st (jx_s1 L i (.ref x)) b X I R)
  | .astore_n i => jx_kr st (fun x st => (i : Nat) < L.length ∧ J nx st (jx_s1 L i (.ref x)) b X I R)
  | .iinc i n => ∃ x, L[i]? = some (some (.int x)) ∧ J nx st (jx_s1 L i (.int (x + Int32.ofInt n))) b X I R
  | .iadd => jx_kii st (fun x y st => J nx (.int (x + y) :: st) L b X I R)
  | .isub => jx_kii st (fun x y st => J nx (.int (x - y) :: st) L b X I R)
  | .imul => jx_kii st (fun x y st => J nx (.int (x * y) :: st) L b X I R)
  | .idiv => jx_kii st (fun x y st => ¬ y = 0 ∧ J nx (.int (x / y) :: st) L b X I R)
  | .irem => jx_kii st (fun x y st => ¬ y = 0 ∧ J nx (.int (x - x / y * y) :: st) L b X I R)
  | .iand => jx_kii st (fun x y st => J nx (.int (x &&& y) :: st) L b X I R)
  | .ior => jx_kii st (fun x y st => J nx (.int (x ||| y) :: st) L b X I R)
  | .ixor => jx_kii st (fun x y st => J nx (.int (x ^^^ y) :: st) L b X I R)
  | .ishl => jx_kii st (fun x y st => J nx (.int (x <<< (y &&& 31)) :: st) L b X I R)
  | .ishr => jx_kii st (fun x y st => J nx (.int (x >>> (y &&& 31)) :: st) L b X I R)
  | .iushr => jx_kii st (fun x y st => J nx (.int (x.toUInt32 >>> (y.toUInt32 &&& Int32.toUInt32 31)).toInt32 :: st) L b X I R)
  | .ladd => jx_kll st (fun x y st => J nx (.long (x + y) :: st) L b X I R)
  | .lsub => jx_kll st (fun x y st => J nx (.long (x - y) :: st) L b X I R)
  | .lmul => jx_kll st (fun x y st => J nx (.long (x * y) :: st) L b X I R)
  | .ldiv => jx_kll st (fun x y st => ¬ y = 0 ∧ J nx (.long (x / y) :: st) L b X I R)
  | .lrem => jx_kll st (fun x y st => ¬ y = 0 ∧ J nx (.long (x - x / y * y) :: st) L b X I R)
  | .land => jx_kll st (fun x y st => J nx (.long (x &&& y) :: st) L b X I R)
  | .lor => jx_kll st (fun x y st => J nx (.long (x ||| y) :: st) L b X I R)
  | .lshl => jx_kil st (fun x y st => J nx (.long (x <<< (y.toInt64 &&& 63)) :: st) L b X I R)
  | .lcmp => jx_kll st (fun x y st => J nx (.int (lg_cmp x y) :: st) L b X I R)
  | .i2l => jx_ki st (fun x st => J nx (.long x.toInt64 :: st) L b X I R)
  | .l2i => jx_kl1 st (fun x st => J nx (.int x.toInt32 :: st) L b X I R)
  | .i2c => jx_ki st (fun x st => J nx (.int (x.toUInt32 % 65536).toInt32 :: st) L b X I R)
  | .dup => match st with
    | v :: st => v.category = 1 ∧ J nx (v :: v :: st) L b X I R
    | _ => False
  | .dup2 => match st with
    | v :: w :: st => v.category = 1 ∧ w.category = 1 ∧ J nx (v :: w :: v :: w :: st) L b X I R
    | _ => False
  | .pop => match st with
    | v :: st => v.category = 1 ∧ J nx st L b X I R
    | _ => False
  | .ifCond c _ => jx_ki st (fun x st => (jx_cd c x 0 → J r1 st L b X I R) ∧ (¬ jx_cd c x 0 → J nx st L b X I R))
  | .if_icmp c _ => jx_kii st (fun x y st => (jx_cd c x y → J r1 st L b X I R) ∧ (¬ jx_cd c x y → J nx st L b X I R))
  | .goto _ => J r1 st L b X I R
  | .tableswitch dflt lo hi offs => jx_ki st (fun x st => ((x.toInt < lo ∨ hi < x.toInt) → 0 ≤ (pc : Int) + dflt ∧ J ((pc : Int) + dflt).toNat st L b X I R) ∧ (¬ x.toInt < lo → ¬ hi < x.toInt → ∃ off, offs[(x.toInt - lo).toNat]? = some off ∧ 0 ≤ (pc : Int) + off ∧ J ((pc : Int) + off).toNat st L b X I R))
  | .lookupswitch dflt ps => jx_ki st (fun x st => 0 ≤ (pc : Int) + Op.lookupswitch.offset ps.toList dflt x.toInt ∧ J ((pc : Int) + Op.lookupswitch.offset ps.toList dflt x.toInt).toNat st L b X I R)
  | .getfield _ => jx_kr st (fun a st => (r1 = 50 ∧ ∃ i, i < 34 ∧ a = V.2.2.2.1 i ∧ ((r2 = 0 ∧ J nx (.ref (V.2.2.2.2.1 i) :: st) L b X I R) ∨ (r2 = 1 ∧ J nx (.int 0 :: st) L b X I R))) ∨
      (X.2.1 a = some (r1, 0) ∧ ((jx_fk r1 r2 ≠ 1 ∧ J nx (.int (I a r2) :: st) L b X I R) ∨ (jx_fk r1 r2 = 1 ∧ ∃ q, R a r2 = some q ∧ J nx (.ref q :: st) L b X I R))))
  | .putfield _ => match st with
    | .int x :: .ref a :: st => X.2.1 a = some (r1, 0) ∧ (jx_fk r1 r2 = 0 ∨ (jx_fk r1 r2 = 2 ∧ (x = 0 ∨ x = 1))) ∧ J nx st L b X (jx_u I a r2 x) R
    | .ref q :: .ref a :: st => X.2.1 a = some (r1, 0) ∧ jx_fk r1 r2 = 1 ∧ (jx_ff r1 r2 = true → ini = true) ∧ J nx st L b X I (jx_u R a r2 (some q))
    | .null :: .ref a :: st => X.2.1 a = some (r1, 0) ∧ jx_fk r1 r2 = 1 ∧ (jx_ff r1 r2 = true → ini = true) ∧ J nx st L b X I (jx_u R a r2 none)
    | _ => False
  | .getstatic _ => (r1 = 0 ∧ J nx (.int 1 :: st) L b X I R) ∨ (r1 = 1 ∧ ∀ q : Option Nat, J nx (va_rf q :: st) L b X I R)
  | .iaload => jx_kir st (fun a i st => (∃ n, X.2.1 a = some (100, n) ∧ vp_in i n ∧ J nx (.int (I a i.toNatClampNeg) :: st) L b X I R) ∨ (a = V.2.2.2.2.2.1 ∧ vp_in i V.2.2.2.2.2.2.1 ∧ J nx (.int (V.2.2.2.2.2.2.2 i.toNatClampNeg) :: st) L b X I R))
  | .laload => jx_kir st (fun a i st => ∃ n, X.2.1 a = some (101, n) ∧ vp_in i n ∧ J nx (.long (X.2.2 a i.toNatClampNeg) :: st) L b X I R)
  | .aaload => jx_kir st (fun a i st => ∃ k n, X.2.1 a = some (k, n) ∧ (k = 102 ∨ k = 103 ∨ k = 104) ∧ vp_in i n ∧ ∃ q, R a i.toNatClampNeg = some q ∧ J nx (.ref q :: st) L b X I R)
  | .baload => jx_kir st (fun a i st => ∃ j, j < 34 ∧ a = V.2.2.2.2.1 j ∧ vp_in i (jx_sb j).length ∧ J nx (.int ((jx_sb j).getD i.toNatClampNeg 0) :: st) L b X I R)
  | .iastore => jx_kiir st (fun a i x st => ∃ n, X.2.1 a = some (100, n) ∧ vp_in i n ∧ J nx st L b X (jx_u I a i.toNatClampNeg x) R)
  | .lastore => jx_klir st (fun a i x st => ∃ n, X.2.1 a = some (101, n) ∧ vp_in i n ∧ J nx st L b (X.1, X.2.1, jx_u X.2.2 a i.toNatClampNeg x) I R)
  | .aastore => jx_krir st (fun a i q st => ∃ k n ci, X.2.1 a = some (k, n) ∧ ((k = 102 ∧ ci = 5) ∨ (k = 103 ∧ ci = 7)) ∧ vp_in i n ∧ X.2.1 q = some (ci, 0) ∧ J nx st L b X I (jx_u R a i.toNatClampNeg (some q)))
  | .arraylength => jx_kr st (fun a st => (∃ k n, X.2.1 a = some (k, n) ∧ 100 ≤ k ∧ k ≤ 104 ∧ J nx (.int (nI n) :: st) L b X I R) ∨ (a = V.2.2.2.2.2.1 ∧ J nx (.int (nI V.2.2.2.2.2.2.1) :: st) L b X I R) ∨ (∃ j, j < 34 ∧ a = V.2.2.2.2.1 j ∧ J nx (.int (nI (jx_sb j).length) :: st) L b X I R))
  | .ireturn => match st with
    | [.int x] => jx_rok rt x ∧ KR (some (.int x)) b X I R
    | _ => False
  | .lreturn => match st with
    | [.long x] => rt = some .long ∧ KR (some (.long x)) b X I R
    | _ => False
  | .return_ => st = [] ∧ rt = none ∧ KR none b X I R
  | .new _ => (r1 < 100 ∧ 1 ≤ b.1 ∧ jx_fn r1 ≤ b.2 ∧ J nx (.ref X.1 :: st) L (b.1 - 1, b.2 - jx_fn r1) (X.1 + 1, jx_up X.2.1 X.1 (r1, 0), X.2.2) (jx_z I X.1) (jx_n R X.1)) ∨
      (100 ≤ r1 ∧ r1 < 104 ∧ hh = [] ∧ 8 ≤ d ∧ 1 ≤ b.1 ∧ 6 ≤ b.2 ∧ (st.map fun v => v.category).sum ≤ 8 ∧ ∀ X' : jx_X, X.1 ≤ X'.1 → X'.2 = X.2 → KX (jx_exe (r1 - 100)).1 (b.1 - 1, b.2 - 6) X' I R)
  | .newarray _ => jx_ki st (fun n st => 0 ≤ n ∧ n.toNatClampNeg ≤ 100000 ∧ 1 ≤ b.1 ∧ n.toNatClampNeg ≤ b.2 ∧ J nx (.ref X.1 :: st) L (b.1 - 1, b.2 - n.toNatClampNeg) (X.1 + 1, jx_up X.2.1 X.1 (r1, n.toNatClampNeg), jx_z8 X.2.2 X.1) (jx_z I X.1) (jx_n R X.1))
  | .anewarray _ => jx_ki st (fun n st => 0 ≤ n ∧ n.toNatClampNeg ≤ 100000 ∧ 1 ≤ b.1 ∧ n.toNatClampNeg ≤ b.2 ∧ J nx (.ref X.1 :: st) L (b.1 - 1, b.2 - n.toNatClampNeg) (X.1 + 1, jx_up X.2.1 X.1 (r1, n.toNatClampNeg), X.2.2) (jx_z I X.1) (jx_n R X.1))
  | .multianewarray _ _ => jx_kii st (fun n k st => 0 ≤ n ∧ n.toNatClampNeg ≤ 100000 ∧ 0 ≤ k ∧ k.toNatClampNeg ≤ 100000 ∧ 1 + n.toNatClampNeg ≤ b.1 ∧ n.toNatClampNeg + n.toNatClampNeg * k.toNatClampNeg ≤ b.2 ∧
      J nx (.ref X.1 :: st) L (b.1 - (1 + n.toNatClampNeg), b.2 - (n.toNatClampNeg + n.toNatClampNeg * k.toNatClampNeg)) (X.1 + 1 + n.toNatClampNeg, jx_ups X.2.1 X.1 n.toNatClampNeg k.toNatClampNeg, X.2.2) (jx_zs I X.1) (jx_ns R X.1 n.toNatClampNeg))
  | .invokevirtual _ => match st.drop r2 with
    | .ref a :: rest => (X.2.1 a = some (jx_ow r1, 0) ∨ (jx_ow r1 = 16 ∧ ∃ i, i < 34 ∧ a = V.2.2.2.1 i)) ∧ r2 ≤ st.length ∧ jx_call V d hh J KX pc nx r1 (.ref a :: (st.take r2).reverse) rest L b X I R
    | _ => False
  | .invokestatic _ => (r3 = 2 ∧ r2 ≤ st.length ∧ jx_call V d hh J KX pc nx r1 (st.take r2).reverse (st.drop r2) L b X I R) ∨
      (r3 = 6 ∧ 1 ≤ d ∧ jx_kcopy st (fun a sp q dp n st => ∃ n0 n1, X.2.1 a = some (100, n0) ∧ X.2.1 q = some (100, n1) ∧ 0 ≤ sp ∧ 0 ≤ dp ∧ 0 ≤ n ∧ sp.toNatClampNeg + n.toNatClampNeg ≤ n0 ∧ dp.toNatClampNeg + n.toNatClampNeg ≤ n1 ∧ (st.map fun v => v.category).sum ≤ 8 ∧
        J nx st L b X (jx_cp I a q sp.toNatClampNeg dp.toNatClampNeg n.toNatClampNeg) R))
  | .invokespecial _ => (r3 = 5 ∧ 1 ≤ d ∧ jx_kr st (fun _ st => (st.map fun v => v.category).sum ≤ 8 ∧ J nx st L b X I R)) ∨
      (r3 ≠ 5 ∧ match st.drop r2 with
        | .ref a :: rest => X.2.1 a = some (jx_ow r1, 0) ∧ r2 ≤ st.length ∧ jx_call V d hh J KX pc nx r1 (.ref a :: (st.take r2).reverse) rest L b X I R
        | _ => False)
  | _ => False
/-- J is closed under the instructions of a code -/
def jx_Snd (V : jx_V) (d : Nat) (rt : Option FieldType) (hh : List (Nat × Nat × Nat × Nat)) (ini : Bool) (C : List jx_row) (J : jx_Jt) (KR : Option Value → Nat × Nat → jx_X → jx_I → jx_R → Prop) (KX : String → Nat × Nat → jx_X → jx_I → jx_R → Prop) : Prop :=
  (∀ (pc : Nat) (st : List Value) (L L' : List (Option Value)) (b : Nat × Nat) (X : jx_X) (I : jx_I) (R : jx_R), L'.length = L.length → (∀ (i : Nat) (v : Value), L'[i]? = some (some v) → L[i]? = some (some v)) → J pc st L' b X I R → J pc st L b X I R) ∧
  ∀ (pc : Nat) (ins : Instr) (nx r1 r2 r3 : Nat) (st : List Value) (L : List (Option Value)) (b : Nat × Nat) (X : jx_X) (I : jx_I) (R : jx_R), jx_at C pc = some (ins, nx, r1, r2, r3) → jx_wp V d rt hh ini J KR KX pc ins nx r1 r2 r3 st L b X I R → J pc st L b X I R
