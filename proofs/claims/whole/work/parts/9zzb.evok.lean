/-! ===== constructors: the run is what the machine does ===== -/
section JB
variable {V : jx_V} {d : Nat} {rt : Option FieldType} {hh : List (Nat × Nat × Nat × Nat)} {ini : Bool} {C : List jx_row} {J : jx_Jt} {KR : Option Value → Nat × Nat → jx_X → jx_I → jx_R → Prop} {KX : String → Nat × Nat → jx_X → jx_I → jx_R → Prop}
variable {pc nx r1 r2 r3 : Nat} {st : List Value} {L : List (Option Value)} {b : Nat × Nat} {X : jx_X} {I : jx_I} {R : jx_R}
theorem jy_newarr (hS : jx_Snd V d rt hh ini C J KR KX) {t} {x : Int} (hat : jx_at C pc = some (.newarray t, nx, r1, r2, r3)) (hx : 0 ≤ x ∧ x ≤ 100000) (hb : 1 ≤ b.1 ∧ x.toNat ≤ b.2) (k : J nx (.ref X.1 :: st) L (b.1 - 1, b.2 - x.toNat) (X.1 + 1, jx_up X.2.1 X.1 (r1, x.toNat), jx_z8 X.2.2 X.1) (jx_z I X.1) (jx_n R X.1)) : J pc (jy x :: st) L b X I R := by
  refine hS.2 _ _ _ _ _ _ _ _ _ _ _ _ hat ?_
  have e := jy_nat (x := x) (by omega)
  show (0 : Int32) ≤ Int32.ofInt x ∧ (Int32.ofInt x).toNatClampNeg ≤ 100000 ∧ 1 ≤ b.1 ∧ (Int32.ofInt x).toNatClampNeg ≤ b.2 ∧ J nx (.ref X.1 :: st) L (b.1 - 1, b.2 - (Int32.ofInt x).toNatClampNeg) (X.1 + 1, jx_up X.2.1 X.1 (r1, (Int32.ofInt x).toNatClampNeg), jx_z8 X.2.2 X.1) (jx_z I X.1) (jx_n R X.1)
  rw [e]
  exact ⟨(jy_le (x := 0) (by omega) (by omega)).mpr hx.1, by omega, hb.1, hb.2, k⟩
theorem jy_anewarr (hS : jx_Snd V d rt hh ini C J KR KX) {t} {x : Int} (hat : jx_at C pc = some (.anewarray t, nx, r1, r2, r3)) (hx : 0 ≤ x ∧ x ≤ 100000) (hb : 1 ≤ b.1 ∧ x.toNat ≤ b.2) (k : J nx (.ref X.1 :: st) L (b.1 - 1, b.2 - x.toNat) (X.1 + 1, jx_up X.2.1 X.1 (r1, x.toNat), X.2.2) (jx_z I X.1) (jx_n R X.1)) : J pc (jy x :: st) L b X I R := by
  refine hS.2 _ _ _ _ _ _ _ _ _ _ _ _ hat ?_
  have e := jy_nat (x := x) (by omega)
  show (0 : Int32) ≤ Int32.ofInt x ∧ (Int32.ofInt x).toNatClampNeg ≤ 100000 ∧ 1 ≤ b.1 ∧ (Int32.ofInt x).toNatClampNeg ≤ b.2 ∧ J nx (.ref X.1 :: st) L (b.1 - 1, b.2 - (Int32.ofInt x).toNatClampNeg) (X.1 + 1, jx_up X.2.1 X.1 (r1, (Int32.ofInt x).toNatClampNeg), X.2.2) (jx_z I X.1) (jx_n R X.1)
  rw [e]
  exact ⟨(jy_le (x := 0) (by omega) (by omega)).mpr hx.1, by omega, hb.1, hb.2, k⟩
theorem jy_multi (hS : jx_Snd V d rt hh ini C J KR KX) {t w} {x y : Int} (hat : jx_at C pc = some (.multianewarray t w, nx, r1, r2, r3)) (hx : 0 ≤ x ∧ x ≤ 100000) (hy : 0 ≤ y ∧ y ≤ 100000) (hb : 1 + x.toNat ≤ b.1 ∧ x.toNat + x.toNat * y.toNat ≤ b.2) (k : J nx (.ref X.1 :: st) L (b.1 - (1 + x.toNat), b.2 - (x.toNat + x.toNat * y.toNat)) (X.1 + 1 + x.toNat, jx_ups X.2.1 X.1 x.toNat y.toNat, X.2.2) (jx_zs I X.1) (jx_ns R X.1 x.toNat)) : J pc (jy y :: jy x :: st) L b X I R := by
  refine hS.2 _ _ _ _ _ _ _ _ _ _ _ _ hat ?_
  have e := jy_nat (x := x) (by omega)
  have e2 := jy_nat (x := y) (by omega)
  show (0 : Int32) ≤ Int32.ofInt x ∧ (Int32.ofInt x).toNatClampNeg ≤ 100000 ∧ (0 : Int32) ≤ Int32.ofInt y ∧ (Int32.ofInt y).toNatClampNeg ≤ 100000 ∧ 1 + (Int32.ofInt x).toNatClampNeg ≤ b.1 ∧ (Int32.ofInt x).toNatClampNeg + (Int32.ofInt x).toNatClampNeg * (Int32.ofInt y).toNatClampNeg ≤ b.2 ∧ J nx (.ref X.1 :: st) L (b.1 - (1 + (Int32.ofInt x).toNatClampNeg), b.2 - ((Int32.ofInt x).toNatClampNeg + (Int32.ofInt x).toNatClampNeg * (Int32.ofInt y).toNatClampNeg)) (X.1 + 1 + (Int32.ofInt x).toNatClampNeg, jx_ups X.2.1 X.1 (Int32.ofInt x).toNatClampNeg (Int32.ofInt y).toNatClampNeg, X.2.2) (jx_zs I X.1) (jx_ns R X.1 (Int32.ofInt x).toNatClampNeg)
  rw [e, e2]
  exact ⟨(jy_le (x := 0) (by omega) (by omega)).mpr hx.1, by omega, (jy_le (x := 0) (by omega) (by omega)).mpr hy.1, by omega, hb.1, hb.2, k⟩
theorem jy_aast (hS : jx_Snd V d rt hh ini C J KR KX) {a q n kd ci : Nat} {i : Int} (hat : jx_at C pc = some (.aastore, nx, r1, r2, r3)) (hs : X.2.1 a = some (kd, n)) (hk : (kd = 102 ∧ ci = 5) ∨ (kd = 103 ∧ ci = 7)) (hn : n ≤ 2147483648) (hi : 0 ≤ i ∧ i < n) (hq : X.2.1 q = some (ci, 0)) (k : J nx st L b X I (jx_u R a i.toNat (some q))) : J pc (.ref q :: jy i :: .ref a :: st) L b X I R := by
  refine hS.2 _ _ _ _ _ _ _ _ _ _ _ _ hat ⟨kd, n, ci, hs, hk, jy_vp hi hn, hq, ?_⟩
  rw [jy_nat (by omega)]
  exact k
end JB
def xX (b : Nat) (S : Nat → Option (Nat × Nat)) (G : Nat → Nat → Int64) (lg : List xe) (n : Nat) : jx_X := (b + n, xeS b S lg, xeG b G lg)
/-! one step of a log -/
section XE
variable {b : Nat} {S : Nat → Option (Nat × Nat)} {G : Nat → Nat → Int64} {I : jx_I} {R : jx_R} {a p q : Nat} {v : Int} {l : List xe}
theorem xeS_0 : xeS b S ((0, a, p, q, v) :: l) = jx_up (xeS b S l) (b + a) (p, q) := if_pos (Or.inl rfl)
theorem xeS_5 : xeS b S ((5, a, p, q, v) :: l) = jx_up (xeS b S l) (b + a) (p, q) := if_pos (Or.inr rfl)
theorem xeS_1 : xeS b S ((1, a, p, q, v) :: l) = jx_ups (xeS b S l) (b + a) p q := by
  show (if (1 = 0 ∨ 1 = 5) then _ else if 1 = 1 then _ else _) = _
  rw [if_neg (by decide), if_pos rfl]
theorem xeS_o {t : Nat} (h : t = 2 ∨ t = 3 ∨ t = 4) : xeS b S ((t, a, p, q, v) :: l) = xeS b S l := by
  show (if (t = 0 ∨ t = 5) then _ else if t = 1 then _ else _) = _
  rw [if_neg (by omega), if_neg (by omega)]
theorem xeG_5 : xeG b G ((5, a, p, q, v) :: l) = jx_z8 (xeG b G l) (b + a) := if_pos rfl
theorem xeG_o {t : Nat} (h : t ≠ 5) : xeG b G ((t, a, p, q, v) :: l) = xeG b G l := if_neg h
theorem xeI_0 : xeI b I ((0, a, p, q, v) :: l) = jx_z (xeI b I l) (b + a) := if_pos (Or.inl rfl)
theorem xeI_5 : xeI b I ((5, a, p, q, v) :: l) = jx_z (xeI b I l) (b + a) := if_pos (Or.inr rfl)
theorem xeI_1 : xeI b I ((1, a, p, q, v) :: l) = jx_zs (xeI b I l) (b + a) := by
  show (if (1 = 0 ∨ 1 = 5) then _ else if 1 = 1 then _ else if 1 = 4 then _ else _) = _
  rw [if_neg (by decide), if_pos rfl]
theorem xeI_4 : xeI b I ((4, a, p, q, v) :: l) = jx_u (xeI b I l) (b + a) p (Int32.ofInt v) := by
  show (if (4 = 0 ∨ 4 = 5) then _ else if 4 = 1 then _ else if 4 = 4 then _ else _) = _
  rw [if_neg (by decide), if_neg (by decide), if_pos rfl]
theorem xeI_o {t : Nat} (h : t = 2 ∨ t = 3) : xeI b I ((t, a, p, q, v) :: l) = xeI b I l := by
  show (if (t = 0 ∨ t = 5) then _ else if t = 1 then _ else if t = 4 then _ else _) = _
  rw [if_neg (by omega), if_neg (by omega), if_neg (by omega)]
theorem xeR_0 : xeR b R ((0, a, p, q, v) :: l) = jx_n (xeR b R l) (b + a) := if_pos (Or.inl rfl)
theorem xeR_5 : xeR b R ((5, a, p, q, v) :: l) = jx_n (xeR b R l) (b + a) := if_pos (Or.inr rfl)
theorem xeR_1 : xeR b R ((1, a, p, q, v) :: l) = jx_ns (xeR b R l) (b + a) p := by
  show (if (1 = 0 ∨ 1 = 5) then _ else if 1 = 1 then _ else if 1 = 2 then _ else if 1 = 3 then _ else _) = _
  rw [if_neg (by decide), if_pos rfl]
theorem xeR_2 : xeR b R ((2, a, p, q, v) :: l) = jx_u (xeR b R l) (b + a) p (some (b + q)) := by
  show (if (2 = 0 ∨ 2 = 5) then _ else if 2 = 1 then _ else if 2 = 2 then _ else if 2 = 3 then _ else _) = _
  rw [if_neg (by decide), if_neg (by decide), if_pos rfl]
theorem xeR_3 : xeR b R ((3, a, p, q, v) :: l) = jx_u (xeR b R l) (b + a) p none := by
  show (if (3 = 0 ∨ 3 = 5) then _ else if 3 = 1 then _ else if 3 = 2 then _ else if 3 = 3 then _ else _) = _
  rw [if_neg (by decide), if_neg (by decide), if_neg (by decide), if_pos rfl]
theorem xeR_4 : xeR b R ((4, a, p, q, v) :: l) = xeR b R l := by
  show (if (4 = 0 ∨ 4 = 5) then _ else if 4 = 1 then _ else if 4 = 2 then _ else if 4 = 3 then _ else _) = _
  rw [if_neg (by decide), if_neg (by decide), if_neg (by decide), if_neg (by decide)]
end XE
/-- what a run stands for -/
def xok (V : jx_V) (b : Nat) (S : Nat → Option (Nat × Nat)) (G : Nat → Nat → Int64) (I : jx_I) (R : jx_R) (D : Nat) (C : List jx_row) (pc : Nat) (st : List (Nat × Int)) (L : List (Option (Nat × Int))) (lg : List xe) (n k pc' : Nat) (st' : List (Nat × Int)) (L' : List (Option (Nat × Int))) (lg' : List xe) (n' k' : Nat) : Prop := (n ≤ n' ∧ k ≤ k') ∧ ∀ (d : Nat) (rt : Option FieldType) (J : jx_Jt) (KR : Option Value → Nat × Nat → jx_X → jx_I → jx_R → Prop) (KX : String → Nat × Nat → jx_X → jx_I → jx_R → Prop), jx_Snd V d rt [] true C J KR KX → D < d → ∀ bb : Nat × Nat, n' ≤ bb.1 + n → k' ≤ bb.2 + k →
    (∀ bb' : Nat × Nat, bb.1 + n ≤ bb'.1 + n' → bb.2 + k ≤ bb'.2 + k' → J pc' (st'.map (xv b)) (xL b L') bb' (xX b S G lg' n') (xeI b I lg') (xeR b R lg')) → J pc (st.map (xv b)) (xL b L) bb (xX b S G lg n) (xeI b I lg) (xeR b R lg)
theorem xent3 {b m : Nat} {w v1 v2 : Nat × Int} (h : w.1 = 1 ∧ v1.1 = 1 ∧ v2.1 = 1) : jx_ent m [Value.ref (b + w.2.toNat), Value.ref (b + v1.2.toNat), Value.ref (b + v2.2.toNat)] = xL b (some w :: some v1 :: some v2 :: List.replicate (m - 3) none) := by
  show [some (Value.ref (b + w.2.toNat)), some (Value.ref (b + v1.2.toNat)), some (Value.ref (b + v2.2.toNat))] ++ List.replicate (m - 3) none = _
  show _ = some (xv b w) :: some (xv b v1) :: some (xv b v2) :: (List.replicate (m - 3) (none : Option (Nat × Int))).map (Option.map (xv b))
  rw [xv_1 h.1, xv_1 h.2.1, xv_1 h.2.2, List.map_replicate]
  rfl
theorem xent {b m : Nat} {w : Nat × Int} (h1 : w.1 = 1) : jx_ent m [Value.ref (b + w.2.toNat)] = xL b (some w :: List.replicate (m - 1) none) := by
  show [some (Value.ref (b + w.2.toNat))] ++ List.replicate (m - 1) none = _
  show _ = some (xv b w) :: (List.replicate (m - 1) (none : Option (Nat × Int))).map (Option.map (xv b))
  rw [xv_1 h1, List.map_replicate]
  rfl
set_option maxHeartbeats 4000000 in
theorem xrun_ok {V : jx_V} (hV : V.1.stackTraces = false) {b : Nat} {S : Nat → Option (Nat × Nat)} {G : Nat → Nat → Int64} {I : jx_I} {R : jx_R} : ∀ (f D : Nat) (C : List jx_row) (pc : Nat) (st : List (Nat × Int)) (L : List (Option (Nat × Int))) (lg : List xe) (n k pc' : Nat) (st' : List (Nat × Int)) (L' : List (Option (Nat × Int))) (lg' : List xe) (n' k' : Nat), xrun f D C pc st L lg n k = some (pc', st', L', lg', n', k') → xok V b S G I R D C pc st L lg n k pc' st' L' lg' n' k' := by
  intro f
  induction f with
  | zero => intro D C pc st L lg n k pc' st' L' lg' n' k' h; cases h
  | succ f ih =>
    intro D C pc st L lg n k pc' st' L' lg' n' k' h
    unfold xrun at h
    split at h
    · cases h
    · next ins nx r1 r2 r3 hat =>
      split at h
      · cases h
        exact ⟨⟨Nat.le_refl _, Nat.le_refl _⟩, fun d rt J KR KX hS hd bb h1 h2 hk => hk bb (Nat.le_refl _) (Nat.le_refl _)⟩
      · cases h
        exact ⟨⟨Nat.le_refl _, Nat.le_refl _⟩, fun d rt J KR KX hS hd bb h1 h2 hk => hk bb (Nat.le_refl _) (Nat.le_refl _)⟩
      · obtain ⟨g1, g2⟩ := ih _ _ _ _ _ _ _ _ _ _ _ _ _ _ h
        exact ⟨g1, fun d rt J KR KX hS hd bb h1 h2 hk => jy_iconst hS hat (g2 d rt J KR KX hS hd bb h1 h2 hk)⟩
      · split at h
        · next hm =>
          obtain ⟨g1, g2⟩ := ih _ _ _ _ _ _ _ _ _ _ _ _ _ _ h
          exact ⟨g1, fun d rt J KR KX hS hd bb h1 h2 hk => jy_bipush hS hat hm (g2 d rt J KR KX hS hd bb h1 h2 hk)⟩
        · cases h
      · split at h
        · next hm =>
          obtain ⟨g1, g2⟩ := ih _ _ _ _ _ _ _ _ _ _ _ _ _ _ h
          exact ⟨g1, fun d rt J KR KX hS hd bb h1 h2 hk => jy_sipush hS hat hm (g2 d rt J KR KX hS hd bb h1 h2 hk)⟩
        · cases h
      · obtain ⟨g1, g2⟩ := ih _ _ _ _ _ _ _ _ _ _ _ _ _ _ h
        exact ⟨g1, fun d rt J KR KX hS hd bb h1 h2 hk => jy_null hS hat (g2 d rt J KR KX hS hd bb h1 h2 hk)⟩
      · split at h
        · next v hv =>
          split at h
          · next hv1 =>
            obtain ⟨g1, g2⟩ := ih _ _ _ _ _ _ _ _ _ _ _ _ _ _ h
            refine ⟨g1, fun d rt J KR KX hS hd bb h1 h2 hk => ?_⟩
            have g3 := g2 d rt J KR KX hS hd bb h1 h2 hk
            have hg := xL_get (b := b) hv
            rw [List.map_cons, xv_1 hv1] at g3
            rw [xv_1 hv1] at hg
            exact jy_aload_n hS hat hg g3
          · cases h
        · cases h
      · split at h
        · next v hv =>
          split at h
          · next hv1 =>
            obtain ⟨g1, g2⟩ := ih _ _ _ _ _ _ _ _ _ _ _ _ _ _ h
            refine ⟨g1, fun d rt J KR KX hS hd bb h1 h2 hk => ?_⟩
            have g3 := g2 d rt J KR KX hS hd bb h1 h2 hk
            have hg := xL_get (b := b) hv
            rw [List.map_cons, xv_0 hv1] at g3
            rw [xv_0 hv1] at hg
            exact jy_iload_n hS hat hg g3
          · cases h
        · cases h
      · split at h
        · next v st1 =>
          split at h
          · next hv1 =>
            obtain ⟨g1, g2⟩ := ih _ _ _ _ _ _ _ _ _ _ _ _ _ _ h
            refine ⟨g1, fun d rt J KR KX hS hd bb h1 h2 hk => ?_⟩
            have g3 := g2 d rt J KR KX hS hd bb h1 h2 hk
            rw [List.map_cons, xv_0 hv1.1]
            exact jy_istore_n hS hat (by rw [List.length_map]; exact hv1.2) (by rw [show (Value.int (Int32.ofInt v.2)) = xv b v from (xv_0 hv1.1).symm]; exact xL_set) g3
          · cases h
        · cases h
      · split at h
        · next v hv =>
          split at h
          · next hv1 =>
            obtain ⟨g1, g2⟩ := ih _ _ _ _ _ _ _ _ _ _ _ _ _ _ h
            refine ⟨g1, fun d rt J KR KX hS hd bb h1 h2 hk => ?_⟩
            have g3 := g2 d rt J KR KX hS hd bb h1 h2 hk
            have hg := xL_get (b := b) hv
            rw [xv_0 hv1] at hg
            exact jy_iinc hS hat hg (xL_set (v := (0, v.2 + _))) g3
          · cases h
        · cases h
      · split at h
        · next v st1 =>
          obtain ⟨g1, g2⟩ := ih _ _ _ _ _ _ _ _ _ _ _ _ _ _ h
          exact ⟨g1, fun d rt J KR KX hS hd bb h1 h2 hk => jy_dup hS hat (xv_c b v) (g2 d rt J KR KX hS hd bb h1 h2 hk)⟩
        · cases h
      · obtain ⟨g1, g2⟩ := ih _ _ _ _ _ _ _ _ _ _ _ _ _ _ h
        exact ⟨g1, fun d rt J KR KX hS hd bb h1 h2 hk => jy_goto hS hat (g2 d rt J KR KX hS hd bb h1 h2 hk)⟩
      · split at h
        · next hr =>
          obtain ⟨g1, g2⟩ := ih _ _ _ _ _ _ _ _ _ _ _ _ _ _ h
          refine ⟨⟨by omega, by omega⟩, fun d rt J KR KX hS hd bb h1 h2 hk => ?_⟩
          have g3 := g2 d rt J KR KX hS hd (bb.1 - 1, bb.2 - jx_fn r1) (by show n' ≤ bb.1 - 1 + (n + 1); omega) (by show k' ≤ bb.2 - jx_fn r1 + (k + jx_fn r1); omega) (fun bb' a1 a2 => hk bb' (by have a3 : bb.1 - 1 + (n + 1) ≤ bb'.1 + n' := a1; omega) (by have a3 : bb.2 - jx_fn r1 + (k + jx_fn r1) ≤ bb'.2 + k' := a2; omega))
          rw [List.map_cons, xv_1 rfl] at g3
          unfold xX at g3
          rw [xeS_0, xeG_o (by decide), xeI_0, xeR_0] at g3
          exact jy_new hS hat hr ⟨by omega, by omega⟩ g3
        · cases h
      · split at h
        · next v st1 =>
          split at h
          · next hr =>
            obtain ⟨g1, g2⟩ := ih _ _ _ _ _ _ _ _ _ _ _ _ _ _ h
            refine ⟨⟨by omega, by omega⟩, fun d rt J KR KX hS hd bb h1 h2 hk => ?_⟩
            have g3 := g2 d rt J KR KX hS hd (bb.1 - 1, bb.2 - v.2.toNat) (by show n' ≤ bb.1 - 1 + (n + 1); omega) (by show k' ≤ bb.2 - v.2.toNat + (k + v.2.toNat); omega) (fun bb' a1 a2 => hk bb' (by have a3 : bb.1 - 1 + (n + 1) ≤ bb'.1 + n' := a1; omega) (by have a3 : bb.2 - v.2.toNat + (k + v.2.toNat) ≤ bb'.2 + k' := a2; omega))
            rw [List.map_cons, xv_1 rfl] at g3
            unfold xX at g3
            rw [xeS_5, xeG_5, xeI_5, xeR_5] at g3
            rw [List.map_cons, xv_0 hr.1]
            exact jy_newarr hS hat hr.2 ⟨by omega, by omega⟩ g3
          · cases h
        · cases h
      · split at h
        · next v st1 =>
          split at h
          · next hr =>
            obtain ⟨g1, g2⟩ := ih _ _ _ _ _ _ _ _ _ _ _ _ _ _ h
            refine ⟨⟨by omega, by omega⟩, fun d rt J KR KX hS hd bb h1 h2 hk => ?_⟩
            have g3 := g2 d rt J KR KX hS hd (bb.1 - 1, bb.2 - v.2.toNat) (by show n' ≤ bb.1 - 1 + (n + 1); omega) (by show k' ≤ bb.2 - v.2.toNat + (k + v.2.toNat); omega) (fun bb' a1 a2 => hk bb' (by have a3 : bb.1 - 1 + (n + 1) ≤ bb'.1 + n' := a1; omega) (by have a3 : bb.2 - v.2.toNat + (k + v.2.toNat) ≤ bb'.2 + k' := a2; omega))
            rw [List.map_cons, xv_1 rfl] at g3
            unfold xX at g3
            rw [xeS_0, xeG_o (by decide), xeI_0, xeR_0] at g3
            rw [List.map_cons, xv_0 hr.1]
            exact jy_anewarr hS hat hr.2 ⟨by omega, by omega⟩ g3
          · cases h
        · cases h
      · split at h
        · next w v st1 =>
          split at h
          · next hr =>
            obtain ⟨g1, g2⟩ := ih _ _ _ _ _ _ _ _ _ _ _ _ _ _ h
            obtain ⟨z, hz⟩ : ∃ z, z = v.2.toNat * w.2.toNat := ⟨_, rfl⟩
            refine ⟨⟨by omega, by rw [← hz] at g1; omega⟩, fun d rt J KR KX hS hd bb h1 h2 hk => ?_⟩
            have g3 := g2 d rt J KR KX hS hd (bb.1 - (1 + v.2.toNat), bb.2 - (v.2.toNat + v.2.toNat * w.2.toNat)) (by show n' ≤ bb.1 - (1 + v.2.toNat) + (n + 1 + v.2.toNat); omega) (by show k' ≤ bb.2 - (v.2.toNat + v.2.toNat * w.2.toNat) + (k + (v.2.toNat + v.2.toNat * w.2.toNat)); rw [← hz] at g1 ⊢; omega) (fun bb' a1 a2 => hk bb' (by have a3 : bb.1 - (1 + v.2.toNat) + (n + 1 + v.2.toNat) ≤ bb'.1 + n' := a1; omega) (by have a3 : bb.2 - (v.2.toNat + v.2.toNat * w.2.toNat) + (k + (v.2.toNat + v.2.toNat * w.2.toNat)) ≤ bb'.2 + k' := a2; rw [← hz] at a3 g1; omega))
            rw [List.map_cons, xv_1 rfl] at g3
            unfold xX at g3
            rw [xeS_1, xeG_o (by decide), xeI_1, xeR_1, show b + (n + 1 + v.2.toNat) = b + n + 1 + v.2.toNat by omega] at g3
            rw [List.map_cons, List.map_cons, xv_0 hr.1.1, xv_0 hr.2.1]
            exact jy_multi hS hat hr.1.2 hr.2.2 ⟨by omega, by rw [← hz] at g1 ⊢; omega⟩ g3
          · cases h
        · cases h
      · split at h
        · next v w st1 =>
          split at h
          · next hr =>
            have hsh := xlS_ok (b := b) (S := S) lg hr.2
            split at h
            · next hv0 =>
              split at h
              · next hfk =>
                obtain ⟨g1, g2⟩ := ih _ _ _ _ _ _ _ _ _ _ _ _ _ _ h
                refine ⟨g1, fun d rt J KR KX hS hd bb h1 h2 hk => ?_⟩
                have g3 := g2 d rt J KR KX hS hd bb h1 h2 hk
                unfold xX at g3
                rw [xeS_o (by decide), xeG_o (by decide), xeI_4, xeR_4] at g3
                rw [List.map_cons, List.map_cons, xv_0 hv0, xv_1 hr.1]
                rcases hfk with hfk | hfk
                · exact jy_putI hS hat hfk hsh (fun I' e => by rw [e]; exact g3)
                · exact jy_putB hS hat hfk.1 hfk.2 hsh (fun I' e => by rw [e]; exact g3)
              · cases h
            · next hv0 =>
              split at h
              · next hfk =>
                split at h
                · next hv1 =>
                  obtain ⟨g1, g2⟩ := ih _ _ _ _ _ _ _ _ _ _ _ _ _ _ h
                  refine ⟨g1, fun d rt J KR KX hS hd bb h1 h2 hk => ?_⟩
                  have g3 := g2 d rt J KR KX hS hd bb h1 h2 hk
                  unfold xX at g3
                  rw [xeS_o (by decide), xeG_o (by decide), xeI_o (by decide), xeR_2] at g3
                  rw [List.map_cons, List.map_cons, xv_1 hv1, xv_1 hr.1]
                  exact jy_putR hS hat hfk (fun _ => rfl) hsh (fun R' e => by rw [e]; exact g3)
                · next hv1 =>
                  obtain ⟨g1, g2⟩ := ih _ _ _ _ _ _ _ _ _ _ _ _ _ _ h
                  refine ⟨g1, fun d rt J KR KX hS hd bb h1 h2 hk => ?_⟩
                  have g3 := g2 d rt J KR KX hS hd bb h1 h2 hk
                  unfold xX at g3
                  rw [xeS_o (by decide), xeG_o (by decide), xeI_o (by decide), xeR_3] at g3
                  rw [List.map_cons, List.map_cons, xv_2 hv0 hv1, xv_1 hr.1]
                  exact jy_putN hS hat hfk (fun _ => rfl) hsh (fun R' e => by rw [e]; exact g3)
              · cases h
          · cases h
        · cases h
      · split at h
        · next w st1 =>
          split at h
          · next hr =>
            have hsh := xlS_ok (b := b) (S := S) lg hr.2.1
            split at h
            · next q hq =>
              obtain ⟨g1, g2⟩ := ih _ _ _ _ _ _ _ _ _ _ _ _ _ _ h
              refine ⟨g1, fun d rt J KR KX hS hd bb h1 h2 hk => ?_⟩
              have g3 := g2 d rt J KR KX hS hd bb h1 h2 hk
              rw [List.map_cons, xv_1 rfl] at g3
              rw [List.map_cons, xv_1 hr.1]
              exact jy_getR hS hat hr.2.2.1 hsh (xlR_ok (b := b) (R := R) lg hq) g3
            · cases h
          · cases h
        · cases h
      · split at h
        · next q i a st1 =>
          split at h
          · next kd m hkm =>
            split at h
            · next hr =>
              obtain ⟨g1, g2⟩ := ih _ _ _ _ _ _ _ _ _ _ _ _ _ _ h
              refine ⟨g1, fun d rt J KR KX hS hd bb h1 h2 hk => ?_⟩
              have g3 := g2 d rt J KR KX hS hd bb h1 h2 hk
              unfold xX at g3
              rw [xeS_o (by decide), xeG_o (by decide), xeI_o (by decide), xeR_2] at g3
              rw [List.map_cons, List.map_cons, List.map_cons, xv_1 hr.1.2.2, xv_0 hr.1.2.1, xv_1 hr.1.1]
              have hsh := xlS_ok (b := b) (S := S) lg hkm
              have h3 := hr.2.2
              rcases hr.2.1 with h4 | h4
              · exact jy_aast hS hat hsh (Or.inl ⟨h4.1, rfl⟩) (by omega) ⟨h3.1, h3.2.1⟩ (xlS_ok (b := b) (S := S) lg h4.2) g3
              · exact jy_aast hS hat hsh (Or.inr ⟨h4.1, rfl⟩) (by omega) ⟨h3.1, h3.2.1⟩ (xlS_ok (b := b) (S := S) lg h4.2) g3
            · cases h
          · cases h
        · cases h
      · split at h
        · next y x st1 =>
          split at h
          · next hr =>
            split at h
            · next hle =>
              obtain ⟨g1, g2⟩ := ih _ _ _ _ _ _ _ _ _ _ _ _ _ _ h
              refine ⟨g1, fun d rt J KR KX hS hd bb h1 h2 hk => ?_⟩
              rw [List.map_cons, List.map_cons, xv_0 hr.1.1, xv_0 hr.2.1]
              exact jy_icmp_ge hS hat ⟨hr.1.2, hr.2.2⟩ (fun _ => g2 d rt J KR KX hS hd bb h1 h2 hk) (fun hn => absurd hle hn)
            · next hle =>
              obtain ⟨g1, g2⟩ := ih _ _ _ _ _ _ _ _ _ _ _ _ _ _ h
              refine ⟨g1, fun d rt J KR KX hS hd bb h1 h2 hk => ?_⟩
              rw [List.map_cons, List.map_cons, xv_0 hr.1.1, xv_0 hr.2.1]
              exact jy_icmp_ge hS hat ⟨hr.1.2, hr.2.2⟩ (fun hn => absurd hn hle) (fun _ => g2 d rt J KR KX hS hd bb h1 h2 hk)
          · cases h
        · cases h
      · split at h
        · next h2e =>
          subst h2e
          split at h
          · next v2 v1 w st1 =>
            split at h
            · next hr =>
              split at h
              · cases h
              · next D1 =>
                split at h
                · next hc =>
                  split at h
                  · next pc2 st2 L2 lg2 n2 k2 hrun =>
                    split at h
                    · next nx9 s1 s2 s3 hat2 =>
                      obtain ⟨f1, f2⟩ := ih _ _ _ _ _ _ _ _ _ _ _ _ _ _ hrun
                      obtain ⟨g1, g2⟩ := ih _ _ _ _ _ _ _ _ _ _ _ _ _ _ h
                      refine ⟨⟨by omega, by omega⟩, fun d rt J KR KX hS hd bb h1 h2 hk => ?_⟩
                      obtain ⟨c1, c2, c3, c4, c5⟩ := xct_ok r1 hc.1.1
                      have hsh := xlS_ok (b := b) (S := S) lg hc.2
                      have hM : jx_Met V (D1 + 1) r1 (n2 - n, k2 - k) [.ref (b + w.2.toNat), .ref (b + v1.2.toNat), .ref (b + v2.2.toNat)] (xX b S G lg n) (xeI b I lg) (xeR b R lg) (fun rv X' I' R' => rv = none ∧ X' = xX b S G lg2 n2 ∧ I' = xeI b I lg2 ∧ R' = xeR b R lg2) (fun _ _ _ _ => False) := by
                        refine jy_met hV c1 ⟨rfl, c2, c3, c4, rfl⟩ hc.1.2 (xent3 hr.1) ?_
                        intro J' hS'
                        exact f2 (D1 + 1) none J' _ _ hS' (Nat.lt_succ_self _) (n2 - n, k2 - k) (by show n2 ≤ n2 - n + n; omega) (by show k2 ≤ k2 - k + k; omega) (fun bb' _ _ => jy_ret hS' hat2 rfl ⟨rfl, rfl, rfl, rfl⟩)
                      rw [List.map_cons, List.map_cons, List.map_cons, xv_1 hr.1.1, xv_1 hr.1.2.1, xv_1 hr.1.2.2]
                      refine jy_callI hS hat hr.2.2 rfl rfl (Nat.succ_le_succ (Nat.succ_le_succ (Nat.zero_le _))) hsh hM hd ⟨by show n2 - n ≤ bb.1; omega, by show k2 - k ≤ bb.2; omega⟩ (by rw [xv_sum]; exact hr.2.1) ?_ (fun _ _ _ _ q => q.elim)
                      rintro rv X' I' R' ⟨rfl, rfl, rfl, rfl⟩
                      exact g2 d rt J KR KX hS hd (bb.1 - (n2 - n), bb.2 - (k2 - k)) (by show n' ≤ bb.1 - (n2 - n) + n2; omega) (by show k' ≤ bb.2 - (k2 - k) + k2; omega) (fun bb' a1 a2 => hk bb' (by have a3 : bb.1 - (n2 - n) + n2 ≤ bb'.1 + n' := a1; omega) (by have a3 : bb.2 - (k2 - k) + k2 ≤ bb'.2 + k' := a2; omega))
                    · cases h
                  · cases h
                · cases h
            · cases h
          · cases h
        · split at h
          · next w st1 =>
            split at h
            · next hr =>
              split at h
              · next h5 =>
                obtain ⟨g1, g2⟩ := ih _ _ _ _ _ _ _ _ _ _ _ _ _ _ h
                refine ⟨g1, fun d rt J KR KX hS hd bb h1 h2 hk => ?_⟩
                rw [List.map_cons, xv_1 hr.1]
                rw [h5] at hat
                exact jy_oi hS hat (by omega) (by rw [xv_sum]; exact hr.2) (g2 d rt J KR KX hS hd bb h1 h2 hk)
              · next h5 =>
                split at h
                · cases h
                · next D1 =>
                  split at h
                  · next hc =>
                    split at h
                    · next pc2 st2 L2 lg2 n2 k2 hrun =>
                      split at h
                      · next nx9 s1 s2 s3 hat2 =>
                        obtain ⟨f1, f2⟩ := ih _ _ _ _ _ _ _ _ _ _ _ _ _ _ hrun
                        obtain ⟨g1, g2⟩ := ih _ _ _ _ _ _ _ _ _ _ _ _ _ _ h
                        refine ⟨⟨by omega, by omega⟩, fun d rt J KR KX hS hd bb h1 h2 hk => ?_⟩
                        obtain ⟨c1, c2, c3, c4, c5⟩ := xct_ok r1 hc.2.1
                        have hsh := xlS_ok (b := b) (S := S) lg hc.2.2
                        have hM : jx_Met V (D1 + 1) r1 (n2 - n, k2 - k) [.ref (b + w.2.toNat)] (xX b S G lg n) (xeI b I lg) (xeR b R lg) (fun rv X' I' R' => rv = none ∧ X' = xX b S G lg2 n2 ∧ I' = xeI b I lg2 ∧ R' = xeR b R lg2) (fun _ _ _ _ => False) := by
                          refine jy_met hV c1 ⟨rfl, c2, c3, c4, rfl⟩ c5 (xent hr.1) ?_
                          intro J' hS'
                          exact f2 (D1 + 1) none J' _ _ hS' (Nat.lt_succ_self _) (n2 - n, k2 - k) (by show n2 ≤ n2 - n + n; omega) (by show k2 ≤ k2 - k + k; omega) (fun bb' _ _ => jy_ret hS' hat2 rfl ⟨rfl, rfl, rfl, rfl⟩)
                        rw [List.map_cons, xv_1 hr.1]
                        obtain ⟨e2, _⟩ := hc
                        subst e2
                        refine jy_callI hS hat h5 rfl rfl (Nat.zero_le _) hsh hM hd ⟨by show n2 - n ≤ bb.1; omega, by show k2 - k ≤ bb.2; omega⟩ (by rw [xv_sum]; exact hr.2) ?_ (fun _ _ _ _ q => q.elim)
                        rintro rv X' I' R' ⟨rfl, rfl, rfl, rfl⟩
                        exact g2 d rt J KR KX hS hd (bb.1 - (n2 - n), bb.2 - (k2 - k)) (by show n' ≤ bb.1 - (n2 - n) + n2; omega) (by show k' ≤ bb.2 - (k2 - k) + k2; omega) (fun bb' a1 a2 => hk bb' (by have a3 : bb.1 - (n2 - n) + n2 ≤ bb'.1 + n' := a1; omega) (by have a3 : bb.2 - (k2 - k) + k2 ≤ bb'.2 + k' := a2; omega))
                      · cases h
                    · cases h
                  · cases h
            · cases h
          · cases h
      · cases h
