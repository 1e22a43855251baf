/-! ===== constructors: a run of them as a log of what is made and put ===== -/
/-- (what, where, p, q, v): 0 an object or an array of references, 5 an array of numbers, 1 rows of numbers, 2 a reference, 3 null, 4 an int; places count from a base -/
abbrev xe : Type := Nat × Nat × Nat × Nat × Int
def xeS (b : Nat) (S : Nat → Option (Nat × Nat)) : List xe → Nat → Option (Nat × Nat)
  | [] => S
  | e :: l => if e.1 = 0 ∨ e.1 = 5 then jx_up (xeS b S l) (b + e.2.1) (e.2.2.1, e.2.2.2.1) else if e.1 = 1 then jx_ups (xeS b S l) (b + e.2.1) e.2.2.1 e.2.2.2.1 else xeS b S l
def xeG (b : Nat) (G : Nat → Nat → Int64) : List xe → Nat → Nat → Int64
  | [] => G
  | e :: l => if e.1 = 5 then jx_z8 (xeG b G l) (b + e.2.1) else xeG b G l
def xeI (b : Nat) (I : jx_I) : List xe → jx_I
  | [] => I
  | e :: l => if e.1 = 0 ∨ e.1 = 5 then jx_z (xeI b I l) (b + e.2.1) else if e.1 = 1 then jx_zs (xeI b I l) (b + e.2.1) else if e.1 = 4 then jx_u (xeI b I l) (b + e.2.1) e.2.2.1 (Int32.ofInt e.2.2.2.2) else xeI b I l
def xeR (b : Nat) (R : jx_R) : List xe → jx_R
  | [] => R
  | e :: l => if e.1 = 0 ∨ e.1 = 5 then jx_n (xeR b R l) (b + e.2.1) else if e.1 = 1 then jx_ns (xeR b R l) (b + e.2.1) e.2.2.1 else if e.1 = 2 then jx_u (xeR b R l) (b + e.2.1) e.2.2.1 (some (b + e.2.2.2.1)) else if e.1 = 3 then jx_u (xeR b R l) (b + e.2.1) e.2.2.1 none else xeR b R l
def xlS : List xe → Nat → Option (Nat × Nat)
  | [], _ => none
  | e :: l, a => if e.1 = 0 ∨ e.1 = 5 then (if a = e.2.1 then some (e.2.2.1, e.2.2.2.1) else xlS l a) else if e.1 = 1 then (if a = e.2.1 then some (104, e.2.2.1) else if e.2.1 < a ∧ a ≤ e.2.1 + e.2.2.1 then some (100, e.2.2.2.1) else xlS l a) else xlS l a
def xlI : List xe → Nat → Nat → Option Int
  | [], _, _ => none
  | e :: l, a, j => if e.1 = 0 ∨ e.1 = 5 then (if a = e.2.1 then some 0 else xlI l a j) else if e.1 = 1 then (if e.2.1 ≤ a then some 0 else xlI l a j) else if e.1 = 4 then (if a = e.2.1 ∧ j = e.2.2.1 then some e.2.2.2.2 else xlI l a j) else xlI l a j
def xlR : List xe → Nat → Nat → Option (Option Nat)
  | [], _, _ => none
  | e :: l, a, j => if e.1 = 0 ∨ e.1 = 5 then (if a = e.2.1 then some none else xlR l a j) else if e.1 = 1 then (if a = e.2.1 then (if j < e.2.2.1 then some (some (e.2.1 + 1 + j)) else some none) else if e.2.1 < a then some none else xlR l a j) else if e.1 = 2 then (if a = e.2.1 ∧ j = e.2.2.1 then some (some e.2.2.2.1) else xlR l a j) else if e.1 = 3 then (if a = e.2.1 ∧ j = e.2.2.1 then some none else xlR l a j) else xlR l a j
theorem xlS_ok {b : Nat} {S : Nat → Option (Nat × Nat)} : ∀ (l : List xe) {a : Nat} {s : Nat × Nat}, xlS l a = some s → xeS b S l (b + a) = some s
  | [], _, _, h => by cases h
  | e :: l, a, s, h => by
    unfold xlS at h
    unfold xeS
    split at h
    · next h1 =>
      rw [if_pos h1]
      unfold jx_up
      split at h
      · next h2 => rw [if_pos (by omega)]; exact h
      · next h2 => rw [if_neg (by omega)]; exact xlS_ok l h
    · next h1 =>
      rw [if_neg h1]
      split at h
      · next h3 =>
        rw [if_pos h3]
        unfold jx_ups
        split at h
        · next h2 => rw [if_pos (by omega)]; exact h
        · next h2 =>
          rw [if_neg (by omega)]
          split at h
          · next h4 => rw [if_pos (by omega)]; exact h
          · next h4 => rw [if_neg (by omega)]; exact xlS_ok l h
      · next h3 => rw [if_neg h3]; exact xlS_ok l h
theorem xlI_ok {b : Nat} {I : jx_I} : ∀ (l : List xe) {a j : Nat} {v : Int}, xlI l a j = some v → xeI b I l (b + a) j = Int32.ofInt v
  | [], _, _, _, h => by cases h
  | e :: l, a, j, v, h => by
    unfold xlI at h
    unfold xeI
    split at h
    · next h1 =>
      rw [if_pos h1]
      unfold jx_z
      split at h
      · next h2 => rw [if_pos (by omega)]; cases h; rfl
      · next h2 => rw [if_neg (by omega)]; exact xlI_ok l h
    · next h1 =>
      rw [if_neg h1]
      split at h
      · next h3 =>
        rw [if_pos h3]
        unfold jx_zs
        split at h
        · next h2 => rw [if_pos (by omega)]; cases h; rfl
        · next h2 => rw [if_neg (by omega)]; exact xlI_ok l h
      · next h3 =>
        rw [if_neg h3]
        split at h
        · next h4 =>
          rw [if_pos h4]
          unfold jx_u
          split at h
          · next h2 => rw [if_pos (by omega)]; cases h; rfl
          · next h2 => rw [if_neg (by omega)]; exact xlI_ok l h
        · next h4 => rw [if_neg h4]; exact xlI_ok l h
theorem xlR_ok {b : Nat} {R : jx_R} : ∀ (l : List xe) {a j : Nat} {v : Option Nat}, xlR l a j = some v → xeR b R l (b + a) j = v.map (fun q => b + q)
  | [], _, _, _, h => by cases h
  | e :: l, a, j, v, h => by
    unfold xlR at h
    unfold xeR
    split at h
    · next h1 =>
      rw [if_pos h1]
      unfold jx_n
      split at h
      · next h2 => rw [if_pos (by omega)]; cases h; rfl
      · next h2 => rw [if_neg (by omega)]; exact xlR_ok l h
    · next h1 =>
      rw [if_neg h1]
      split at h
      · next h3 =>
        rw [if_pos h3]
        unfold jx_ns
        split at h
        · next h2 =>
          rw [if_pos (by omega)]
          split at h
          · next h5 => rw [if_pos h5]; cases h; show some (b + e.2.1 + 1 + j) = some (b + (e.2.1 + 1 + j)); congr 1; omega
          · next h5 => rw [if_neg h5]; cases h; rfl
        · next h2 =>
          rw [if_neg (by omega)]
          split at h
          · next h5 => rw [if_pos (by omega)]; cases h; rfl
          · next h5 => rw [if_neg (by omega)]; exact xlR_ok l h
      · next h3 =>
        rw [if_neg h3]
        split at h
        · next h4 =>
          rw [if_pos h4]
          unfold jx_u
          split at h
          · next h2 => rw [if_pos (by omega)]; cases h; rfl
          · next h2 => rw [if_neg (by omega)]; exact xlR_ok l h
        · next h4 =>
          rw [if_neg h4]
          split at h
          · next h6 =>
            rw [if_pos h6]
            unfold jx_u
            split at h
            · next h2 => rw [if_pos (by omega)]; cases h; rfl
            · next h2 => rw [if_neg (by omega)]; exact xlR_ok l h
          · next h6 => rw [if_neg h6]; exact xlR_ok l h
/-- below the base nothing changes -/
theorem xeS_lt {b : Nat} {S : Nat → Option (Nat × Nat)} {q : Nat} (hq : q < b) : ∀ l : List xe, xeS b S l q = S q
  | [] => rfl
  | e :: l => by
    unfold xeS jx_up jx_ups
    split
    · dsimp only; rw [if_neg (by omega)]; exact xeS_lt hq l
    · split
      · dsimp only; rw [if_neg (by omega), if_neg (by omega)]; exact xeS_lt hq l
      · exact xeS_lt hq l
theorem xeI_lt {b : Nat} {I : jx_I} {q : Nat} (hq : q < b) : ∀ l : List xe, xeI b I l q = I q
  | [] => rfl
  | e :: l => by
    funext j
    have h := xeI_lt (I := I) hq l
    unfold xeI jx_z jx_zs jx_u
    split
    · dsimp only; rw [if_neg (by omega), h]
    · split
      · dsimp only; rw [if_neg (by omega), h]
      · split
        · dsimp only; rw [if_neg (by omega), h]
        · rw [h]
theorem xeR_lt {b : Nat} {R : jx_R} {q : Nat} (hq : q < b) : ∀ l : List xe, xeR b R l q = R q
  | [] => rfl
  | e :: l => by
    funext j
    have h := xeR_lt (R := R) hq l
    unfold xeR jx_n jx_ns jx_u
    split
    · dsimp only; rw [if_neg (by omega), h]
    · split
      · dsimp only; rw [if_neg (by omega), if_neg (by omega), h]
      · split
        · dsimp only; rw [if_neg (by omega), h]
        · split
          · dsimp only; rw [if_neg (by omega), h]
          · rw [h]
/-- a value: 0 a number, 1 a place, 2 null -/
def xv (b : Nat) (v : Nat × Int) : Value := if v.1 = 0 then jy v.2 else if v.1 = 1 then .ref (b + v.2.toNat) else .null
theorem xv_0 {b : Nat} {v : Nat × Int} (h : v.1 = 0) : xv b v = jy v.2 := if_pos h
theorem xv_1 {b : Nat} {v : Nat × Int} (h : v.1 = 1) : xv b v = .ref (b + v.2.toNat) := by unfold xv; rw [if_neg (by omega), if_pos h]
theorem xv_2 {b : Nat} {v : Nat × Int} (h : ¬ v.1 = 0) (h1 : ¬ v.1 = 1) : xv b v = .null := by unfold xv; rw [if_neg h, if_neg h1]
theorem xv_c (b : Nat) (v : Nat × Int) : (xv b v).category = 1 := by unfold xv; split; rfl; split <;> rfl
theorem xv_sum (b : Nat) : ∀ st : List (Nat × Int), ((st.map (xv b)).map fun v => v.category).sum = st.length
  | [] => rfl
  | v :: st => by
    show (xv b v).category + ((st.map (xv b)).map fun v => v.category).sum = st.length + 1
    rw [xv_c, xv_sum b st]
    omega
abbrev xL (b : Nat) (L : List (Option (Nat × Int))) : List (Option Value) := L.map (Option.map (xv b))
theorem xL_get {b i : Nat} {L : List (Option (Nat × Int))} {v : Nat × Int} (h : L[i]? = some (some v)) : (xL b L)[i]? = some (some (xv b v)) := by
  show (L.map (Option.map (xv b)))[i]? = _
  rw [List.getElem?_map, h]
  rfl
theorem xL_kl {b : Nat} {L : List (Option (Nat × Int))} (i : Nat) : jx_kl (xL b L) i = xL b L := by
  cases i with
  | zero => rfl
  | succ i =>
    simp only [jx_kl]
    split
    · next v hv =>
      rw [if_neg]
      intro h2
      have h3 : (L.map (Option.map (xv b)))[i]? = some (some v) := hv
      rw [List.getElem?_map] at h3
      obtain ⟨w, h4, h5⟩ := Option.map_eq_some_iff.mp h3
      cases w with
      | none => cases h5
      | some u =>
        cases h5
        rw [xv_c] at h2
        omega
    · rfl
theorem xL_set {b i : Nat} {L : List (Option (Nat × Int))} {v : Nat × Int} : jx_s1 (xL b L) i (xv b v) = xL b (L.set i (some v)) := by
  unfold jx_s1
  rw [xL_kl]
  show (L.map (Option.map (xv b))).set i (some (xv b v)) = (L.set i (some v)).map (Option.map (xv b))
  rw [List.map_set]
  rfl
def xct : List Nat := [0, 8, 22, 43, 54, 67, 84, 95, 101, 120, 126, 134, 199]
theorem xct_ok : ∀ z ∈ xct, z < 377 ∧ jx_rt z = none ∧ jx_hz z = [] ∧ decide ((jx_nm z).name = "<init>") = true ∧ 1 ≤ jx_ml z := by decide +kernel
/-- a run of constructors: fuel, depth, code, place, stack, locals, log, size, slots; it comes to a return, or to a call of another kind -/
def xrun : Nat → Nat → List jx_row → Nat → List (Nat × Int) → List (Option (Nat × Int)) → List xe → Nat → Nat → Option (Nat × List (Nat × Int) × List (Option (Nat × Int)) × List xe × Nat × Nat)
  | 0, _, _, _, _, _, _, _, _ => none
  | f + 1, D, C, pc, st, L, lg, n, k => match jx_at C pc with
    | none => none
    | some (ins, nx, r1, r2, r3) => match ins with
      | .return_ => some (pc, st, L, lg, n, k)
      | .invokevirtual _ => some (pc, st, L, lg, n, k)
      | .iconst m => xrun f D C nx ((0, m) :: st) L lg n k
      | .bipush m => if (Int8.ofInt m).toInt32 = Int32.ofInt m then xrun f D C nx ((0, m) :: st) L lg n k else none
      | .sipush m => if (Int16.ofInt m).toInt32 = Int32.ofInt m then xrun f D C nx ((0, m) :: st) L lg n k else none
      | .aconst_null => xrun f D C nx ((2, 0) :: st) L lg n k
      | .aload_n i => match L[(i : Nat)]? with
        | some (some v) => if v.1 = 1 then xrun f D C nx (v :: st) L lg n k else none
        | _ => none
      | .iload_n i => match L[(i : Nat)]? with
        | some (some v) => if v.1 = 0 then xrun f D C nx (v :: st) L lg n k else none
        | _ => none
      | .istore_n i => match st with
        | v :: st => if v.1 = 0 ∧ (i : Nat) < L.length then xrun f D C nx st (L.set (i : Nat) (some v)) lg n k else none
        | [] => none
      | .iinc i m => match L[i]? with
        | some (some v) => if v.1 = 0 then xrun f D C nx st (L.set i (some (0, v.2 + m))) lg n k else none
        | _ => none
      | .dup => match st with
        | v :: st => xrun f D C nx (v :: v :: st) L lg n k
        | [] => none
      | .goto _ => xrun f D C r1 st L lg n k
      | .new _ => if r1 < 100 then xrun f D C nx ((1, (n : Int)) :: st) L ((0, n, r1, 0, 0) :: lg) (n + 1) (k + jx_fn r1) else none
      | .newarray _ => match st with
        | v :: st => if v.1 = 0 ∧ 0 ≤ v.2 ∧ v.2 ≤ 100000 then xrun f D C nx ((1, (n : Int)) :: st) L ((5, n, r1, v.2.toNat, 0) :: lg) (n + 1) (k + v.2.toNat) else none
        | [] => none
      | .anewarray _ => match st with
        | v :: st => if v.1 = 0 ∧ 0 ≤ v.2 ∧ v.2 ≤ 100000 then xrun f D C nx ((1, (n : Int)) :: st) L ((0, n, r1, v.2.toNat, 0) :: lg) (n + 1) (k + v.2.toNat) else none
        | [] => none
      | .multianewarray _ _ => match st with
        | w :: v :: st => if (v.1 = 0 ∧ 0 ≤ v.2 ∧ v.2 ≤ 100000) ∧ (w.1 = 0 ∧ 0 ≤ w.2 ∧ w.2 ≤ 100000) then xrun f D C nx ((1, (n : Int)) :: st) L ((1, n, v.2.toNat, w.2.toNat, 0) :: lg) (n + 1 + v.2.toNat) (k + (v.2.toNat + v.2.toNat * w.2.toNat)) else none
        | _ => none
      | .putfield _ => match st with
        | v :: w :: st => if w.1 = 1 ∧ xlS lg w.2.toNat = some (r1, 0) then
            (if v.1 = 0 then (if jx_fk r1 r2 = 0 ∨ (jx_fk r1 r2 = 2 ∧ (v.2 = 0 ∨ v.2 = 1)) then xrun f D C nx st L ((4, w.2.toNat, r2, 0, v.2) :: lg) n k else none)
              else if jx_fk r1 r2 = 1 then (if v.1 = 1 then xrun f D C nx st L ((2, w.2.toNat, r2, v.2.toNat, 0) :: lg) n k else xrun f D C nx st L ((3, w.2.toNat, r2, 0, 0) :: lg) n k) else none) else none
        | _ => none
      | .getfield _ => match st with
        | w :: st => if w.1 = 1 ∧ xlS lg w.2.toNat = some (r1, 0) ∧ jx_fk r1 r2 = 1 ∧ r1 ≠ 50 then match xlR lg w.2.toNat r2 with
            | some (some q) => xrun f D C nx ((1, (q : Int)) :: st) L lg n k
            | _ => none
          else none
        | [] => none
      | .aastore => match st with
        | q :: i :: a :: st => match xlS lg a.2.toNat with
          | some (kd, m) => if (a.1 = 1 ∧ i.1 = 0 ∧ q.1 = 1) ∧ ((kd = 102 ∧ xlS lg q.2.toNat = some (5, 0)) ∨ (kd = 103 ∧ xlS lg q.2.toNat = some (7, 0))) ∧ (0 ≤ i.2 ∧ i.2 < m ∧ m ≤ 100000) then xrun f D C nx st L ((2, a.2.toNat, i.2.toNat, q.2.toNat, 0) :: lg) n k else none
          | none => none
        | _ => none
      | .if_icmp .ge _ => match st with
        | y :: x :: st => if (x.1 = 0 ∧ -2147483648 ≤ x.2 ∧ x.2 < 2147483648) ∧ (y.1 = 0 ∧ -2147483648 ≤ y.2 ∧ y.2 < 2147483648) then (if y.2 ≤ x.2 then xrun f D C r1 st L lg n k else xrun f D C nx st L lg n k) else none
        | _ => none
      | .invokespecial _ => if r2 = 2 then (match st with
        | v2 :: v1 :: w :: st => if (w.1 = 1 ∧ v1.1 = 1 ∧ v2.1 = 1) ∧ st.length ≤ 8 ∧ r3 ≠ 5 then match D with
          | 0 => none
          | D + 1 => if (r1 ∈ xct ∧ 3 ≤ jx_ml r1) ∧ xlS lg w.2.toNat = some (jx_ow r1, 0) then match xrun f D (jx_code r1) 0 [] (some w :: some v1 :: some v2 :: List.replicate (jx_ml r1 - 3) none) lg n k with
            | some (pc2, st2, L2, lg2, n2, k2) => match st2, jx_at (jx_code r1) pc2 with
              | [], some (.return_, _, _, _, _) => xrun f (D + 1) C nx st L lg2 n2 k2
              | _, _ => none
            | none => none
            else none else none
        | _ => none) else match st with
        | w :: st => if w.1 = 1 ∧ st.length ≤ 8 then (if r3 = 5 then xrun f D C nx st L lg n k else match D with
          | 0 => none
          | D + 1 => if r2 = 0 ∧ r1 ∈ xct ∧ xlS lg w.2.toNat = some (jx_ow r1, 0) then match xrun f D (jx_code r1) 0 [] (some w :: List.replicate (jx_ml r1 - 1) none) lg n k with
            | some (pc2, st2, L2, lg2, n2, k2) => match st2, jx_at (jx_code r1) pc2 with
              | [], some (.return_, _, _, _, _) => xrun f (D + 1) C nx st L lg2 n2 k2
              | _, _ => none
            | none => none
            else none) else none
        | [] => none
      | _ => none
