/-! ===== the law: both sides together ===== -/
theorem jx_at_in : ∀ (C : List jx_row) {pc : Nat} {x : Instr × Nat × Nat × Nat × Nat}, jx_at C pc = some x → (pc, x) ∈ C
  | [], _, _, h => by cases h
  | q :: C, pc, x, h => by
    unfold jx_at at h
    split at h
    · next e =>
      have e2 := Nat.eq_of_beq_eq_true e
      cases h
      rw [← e2]
      exact List.mem_cons_self
    · exact List.mem_cons_of_mem _ (jx_at_in C h)
/-- a piece of a code -/
theorem jx_piece {V : jx_V} {d : Nat} {rt : Option FieldType} {hh : List (Nat × Nat × Nat × Nat)} {ini : Bool} {C D : List jx_row} {J : jx_Jt} {KR : Option Value → Nat × Nat → jx_X → jx_I → jx_R → Prop} {KX : String → Nat × Nat → jx_X → jx_I → jx_R → Prop} (hS : jx_Snd V d rt hh ini C J KR KX) (hD : D.all (fun q => decide (jx_at C q.1 = some q.2)) = true) : jx_Snd V d rt hh ini D J KR KX :=
  ⟨hS.1, fun pc ins nx r1 r2 r3 st L b X I R hat => hS.2 pc ins nx r1 r2 r3 st L b X I R (of_decide_eq_true (List.all_eq_true.mp hD _ (jx_at_in D hat)))⟩
section JU
variable {V : jx_V} {d : Nat} {rt : Option FieldType} {hh : List (Nat × Nat × Nat × Nat)} {ini : Bool} {C : List jx_row} {J : jx_Jt} {KR : Option Value → Nat × Nat → jx_X → jx_I → jx_R → Prop} {KX : String → Nat × Nat → jx_X → jx_I → jx_R → Prop}
variable {pc nx r1 r2 r3 : Nat} {st : List Value} {L : List (Option Value)} {b : Nat × Nat} {X : jx_X} {I : jx_I} {R : jx_R}
theorem jy_icmp_s (hS : jx_Snd V d rt hh ini C J KR KX) {x : Int32} {off : Int} (hat : jx_at C pc = some (.if_icmp .eq off, nx, r1, r2, r3)) (k : J r1 st L b X I R) : J pc (.int x :: .int x :: st) L b X I R := hS.2 _ _ _ _ _ _ _ _ _ _ _ _ hat ⟨fun _ => k, fun h => absurd rfl h⟩
theorem jy_lcmp_s (hS : jx_Snd V d rt hh ini C J KR KX) {x y : Int64} (hat : jx_at C pc = some (.lcmp, nx, r1, r2, r3)) (hxy : x = y) (k : J nx (jy 0 :: st) L b X I R) : J pc (.long y :: .long x :: st) L b X I R := by
  subst hxy
  refine jy_lcmp hS hat ?_
  have e : lg_cmp x x = 0 := by unfold lg_cmp; simp
  rw [e]
  exact k
theorem jy_if_0 (hS : jx_Snd V d rt hh ini C J KR KX) {off : Int} (hat : jx_at C pc = some (.ifCond .eq off, nx, r1, r2, r3)) (k : J r1 st L b X I R) : J pc (jy 0 :: st) L b X I R := hS.2 _ _ _ _ _ _ _ _ _ _ _ _ hat ⟨fun _ => k, fun h => absurd rfl h⟩
end JU
/-- the class at a, the reference behind it, the longs at u: they hold s -/
def LJ (X : jx_X) (R : jx_R) (I : jx_I) (a u : Nat) (s : YZ) : Prop := CI X R I a s ∧ MI X R I (a + 147) s ∧ ZG s ∧ X.2.1 u = some (101, 1)
/-- what a refusal or an answer comes to -/
def SO (e : Option (Nat × Int)) (w : Int) (P : Prop) (s s' s1 : YZ) : Prop := (e = none ∧ w = 0 ∧ P ∧ s1 = s') ∨ ((1 ≤ w ∧ w ≤ 3) ∧ ∃ k, e = some (k, w) ∧ s1 = yzR s k)
theorem comb_A {X : jx_X} {R R1 : jx_R} {I I1 : jx_I} {G : Nat → Nat → Int64} {a u : Nat} {e : Option (Nat × Int)} {v : Int64} {s s' : YZ} {rv : Option Value} {M : List (Nat × Int)} (he : ∀ k w, e = some (k, w) → (k, w) ∈ M) (hM : M.all (fun q => decide (1 ≤ q.2 ∧ q.2 ≤ 3)) = true) (hg : ZG s) (h : WQA X R I a u e v s s' rv G I1 R1) : ∃ (w : Int) (s1 : YZ), rv = some (jy w) ∧ CI X R1 I1 a s1 ∧ ZG s1 ∧ FB a 147 I I1 R R1 ∧ SO e w (G u 0 = v) s s' s1 := by
  rcases h with ⟨h1, h2, h3, h4, h5, h6⟩ | ⟨k, w, h1, h2, h3, h4⟩
  · exact ⟨0, s', h2, h4, h5, h6, Or.inl ⟨h1, rfl, h3, rfl⟩⟩
  · exact ⟨w, yzR s k, h2, h3, ZG_R hg, h4, Or.inr ⟨of_decide_eq_true (List.all_eq_true.mp hM _ (he k w h1)), k, h1, rfl⟩⟩
theorem comb_M {X : jx_X} {R R2 : jx_R} {I I2 : jx_I} {m : Nat} {ty : Option Value → Prop} {e : Option (Nat × Int)} {w : Int} {P : Prop} {v : Value} {s s' s1 : YZ} {rv : Option Value} (ht : ty (some v)) (hs : SO e w P s s' s1) (h : MQA X R I m ty e v s s' rv I2 R2) : R2 = R ∧ (∀ q, q < m → I2 q = I q) ∧ MI X R I2 m s1 ∧ (I2 m 0).toInt = w ∧ ty rv ∧ (w = 0 → P ∧ rv = some v) := by
  obtain ⟨h1, h2, h3⟩ := h
  rcases hs with ⟨a1, rfl, a3, rfl⟩ | ⟨a0, k, a1, rfl⟩
  · rcases h3 with ⟨c1, c2, c3, c4⟩ | ⟨k2, w2, c1, _⟩
    · exact ⟨h1, h2, c3, c4, by rw [c2]; exact ht, fun _ => ⟨a3, c2⟩⟩
    · rw [a1] at c1; cases c1
  · rcases h3 with ⟨c1, _⟩ | ⟨k2, w2, c1, c2, c3, c4⟩
    · rw [a1] at c1; cases c1
    · rw [a1] at c1
      cases c1
      refine ⟨h1, h2, c3, ?_, c2, fun h0 => by omega⟩
      rw [c4]
      unfold w32
      exact jy_toInt (by omega)
theorem SO_rng {e : Option (Nat × Int)} {w : Int} {P : Prop} {s s' s1 : YZ} (h : SO e w P s s' s1) : 0 ≤ w ∧ w ≤ 3 := by
  rcases h with ⟨_, rfl, _, _⟩ | ⟨h0, _⟩
  · decide
  · omega
/-- the class has answered: the reference as before -/
theorem MI_B {X X' : jx_X} {R R' : jx_R} {I I' : jx_I} {a : Nat} {s : YZ} (h : MI X R I (a + 147) s) (hg : ZG s) (hX : X'.2.1 = X.2.1) (hf : FB a 147 I I' R R') : MI X' R' I' (a + 147) s := MI_fr h hg (fun q _ _ => by rw [hX]) (fun q hq _ => (hf q (Or.inr hq)).1) (fun q hq _ => (hf q (Or.inr hq)).2)
/-- both have answered -/
theorem LJ_2 {X X' : jx_X} {R : jx_R} {I I2 : jx_I} {a u : Nat} {s : YZ} (hC : CI X R I a s) (hX : X'.2.1 = X.2.1) (hu : X.2.1 u = some (101, 1)) (hg : ZG s) (hf : ∀ q, q < a + 147 → I2 q = I q) (hM : MI X' R I2 (a + 147) s) : LJ X' R I2 a u s := ⟨CI_fr hC hg (fun q _ _ => by rw [hX]) (fun q _ h2 => hf q h2) (fun _ _ _ => rfl), hM, hg, by rw [hX]; exact hu⟩
theorem LJ_1 {X X' : jx_X} {R : jx_R} {I : jx_I} {a u : Nat} {s : YZ} (h : LJ X R I a u s) (hX : X'.2.1 = X.2.1) : LJ X' R I a u s := ⟨CI_fr h.1 h.2.2.1 (fun q _ _ => by rw [hX]) (fun _ _ _ => rfl) (fun _ _ _ => rfl), MI_fr h.2.1 h.2.2.1 (fun q _ _ => by rw [hX]) (fun _ _ _ => rfl) (fun _ _ _ => rfl), h.2.2.1, by rw [hX]; exact h.2.2.2⟩
theorem LJ_a {X : jx_X} {R : jx_R} {I : jx_I} {a u : Nat} {s : YZ} (h : LJ X R I a u s) : X.2.1 a = some (11, 0) := s_GC_0 (CI_b h.1)
theorem MI_m {X : jx_X} {R : jx_R} {I : jx_I} {m : Nat} {s : YZ} (h : MI X R I m s) : X.2.1 m = some (12, 0) := s_M_0 h.1
theorem ty_int {v : Int} : ty_i (some (jy v)) := ⟨v, rfl⟩
theorem ty_lng {v : Int64} : ty_l (some (.long v)) := ⟨v, rfl⟩
/-- the class's answer to a call that is not refused -/
theorem KQ_n {X : jx_X} {R R1 : jx_R} {I I1 : jx_I} {a : Nat} {v : Value} {s' : YZ} {rv : Option Value} (h : KQ X R I a none v s' rv I1 R1) : rv = some v ∧ CI X R1 I1 a s' ∧ ZG s' ∧ FB a 147 I I1 R R1 := h.2
theorem MQ_n {X : jx_X} {R R2 : jx_R} {I I2 : jx_I} {m : Nat} {ty : Option Value → Prop} {v : Value} {s s' : YZ} {rv : Option Value} (h : MQA X R I m ty none v s s' rv I2 R2) : R2 = R ∧ (∀ q, q < m → I2 q = I q) ∧ MI X R I2 m s' ∧ rv = some v := by
  obtain ⟨h1, h2, (⟨_, c2, c3, _⟩ | ⟨k, w, c1, _⟩)⟩ := h
  · exact ⟨h1, h2, c3, c2⟩
  · cases c1
/-- a number of the script -/
abbrev sx_ (V : jx_V) (i : Int) : Int := (V.2.2.2.2.2.2.2 i.toNat).toInt
