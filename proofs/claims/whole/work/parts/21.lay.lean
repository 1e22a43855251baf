/-! ===== blocks, frames, lists ===== -/
/-- a block of objects from a on: shapes, and references by their distance -/
def BX (X : jx_X) (R : jx_R) (a : Nat) (T : List ((Nat × Nat) × List (Nat × Nat))) : Prop := ∀ (k : Nat) (e : (Nat × Nat) × List (Nat × Nat)), T[k]? = some e → X.2.1 (a + k) = some e.1 ∧ ∀ p : Nat × Nat, p ∈ e.2 → R (a + k) p.1 = some (a + p.2)
theorem BX_s {X : jx_X} {R : jx_R} {a : Nat} {T : List ((Nat × Nat) × List (Nat × Nat))} (h : BX X R a T) (k : Nat) (e : (Nat × Nat) × List (Nat × Nat)) (hk : T[k]? = some e) : X.2.1 (a + k) = some e.1 := (h k e hk).1
theorem BX_r {X : jx_X} {R : jx_R} {a : Nat} {T : List ((Nat × Nat) × List (Nat × Nat))} (h : BX X R a T) (k : Nat) (e : (Nat × Nat) × List (Nat × Nat)) (hk : T[k]? = some e) (p : Nat × Nat) (hp : p ∈ e.2) : R (a + k) p.1 = some (a + p.2) := (h k e hk).2 p hp
/-- a part of a block, references less their distance -/
def BXd (d : Nat) (e : (Nat × Nat) × List (Nat × Nat)) : (Nat × Nat) × List (Nat × Nat) := (e.1, e.2.map (fun p => (p.1, p.2 - d)))
/-- the smaller table stands in the larger one, from d on (which may say more of a place) -/
def BXc (d : Nat) : List ((Nat × Nat) × List (Nat × Nat)) → List ((Nat × Nat) × List (Nat × Nat)) → Bool
  | _, [] => true
  | [], _ :: _ => false
  | e :: T, f :: T2 => (decide (e.1 = f.1) && f.2.all (fun p => decide ((p.1, p.2 + d) ∈ e.2))) && BXc d T T2
theorem BXc_ok {d : Nat} : ∀ (T T2 : List ((Nat × Nat) × List (Nat × Nat))), BXc d T T2 = true → ∀ (k : Nat) (f : (Nat × Nat) × List (Nat × Nat)), T2[k]? = some f → ∃ e, T[k]? = some e ∧ e.1 = f.1 ∧ ∀ p ∈ f.2, (p.1, p.2 + d) ∈ e.2
  | _, [], _, k, f, h => by cases h
  | [], _ :: _, h, _, _, _ => by cases h
  | e :: T, g :: T2, hc, k, f, h => by
    unfold BXc at hc
    rw [Bool.and_eq_true, Bool.and_eq_true] at hc
    cases k with
    | zero =>
      cases h
      exact ⟨e, rfl, of_decide_eq_true hc.1.1, fun p hp => of_decide_eq_true (List.all_eq_true.mp hc.1.2 p hp)⟩
    | succ k => exact BXc_ok T T2 hc.2 k f h
theorem BX_sub {X : jx_X} {R : jx_R} {a : Nat} {T : List ((Nat × Nat) × List (Nat × Nat))} (h : BX X R a T) (d : Nat) (T2 : List ((Nat × Nat) × List (Nat × Nat))) (hT : BXc d (T.drop d) T2 = true) : BX X R (a + d) T2 := by
  intro k f hk
  obtain ⟨e, he, e1, e2⟩ := BXc_ok _ _ hT k f hk
  rw [List.getElem?_drop] at he
  have hh := h _ _ he
  rw [← Nat.add_assoc] at hh
  refine ⟨by rw [← e1]; exact hh.1, fun p hp => ?_⟩
  have h2 := hh.2 _ (e2 p hp)
  rw [h2]
  show some (a + (p.2 + d)) = some (a + d + p.2)
  congr 1
  omega
def TRow : List ((Nat × Nat) × List (Nat × Nat)) := [((5, 0), [(0, 1)]), ((100, 12), [])]
def THerd : List ((Nat × Nat) × List (Nat × Nat)) := [((1, 0), [(0, 1), (1, 2), (2, 3)]), ((100, 80), []), ((100, 80), []), ((100, 8), [])]
def TLaw : List ((Nat × Nat) × List (Nat × Nat)) := [((3, 0), [(0, 1), (1, 2), (2, 3)]), ((100, 600), []), ((100, 32), []), ((100, 5), [])]
def TLand : List ((Nat × Nat) × List (Nat × Nat)) := [((2, 0), [(0, 1), (1, 2), (2, 3), (3, 4), (4, 5), (5, 6), (6, 7)]), ((100, 10), []), ((100, 100), []), ((100, 8), []), ((100, 8), []), ((100, 8), []), ((100, 80), []), ((3, 0), [(0, 8), (1, 9), (2, 10)]), ((100, 600), []), ((100, 32), []), ((100, 5), [])]
def TTape : List ((Nat × Nat) × List (Nat × Nat)) := [((8, 0), [(0, 1)]), ((100, 600), [])]
def TState : List ((Nat × Nat) × List (Nat × Nat)) := [((7, 0), [(0, 1), (1, 5), (2, 7), (3, 9), (4, 10), (5, 11)]), ((1, 0), [(0, 2), (1, 3), (2, 4)]), ((100, 80), []), ((100, 80), []), ((100, 8), []), ((5, 0), [(0, 6)]), ((100, 12), []), ((5, 0), [(0, 8)]), ((100, 12), []), ((100, 9), []), ((100, 9), []), ((100, 3840), [])]
def TTrip : List ((Nat × Nat) × List (Nat × Nat)) := [((9, 0), [(0, 1), (1, 5), (2, 6)]), ((1, 0), [(0, 2), (1, 3), (2, 4)]), ((100, 80), []), ((100, 80), []), ((100, 8), []), ((100, 96), []), ((100, 12), [])]
def TRunner : List ((Nat × Nat) × List (Nat × Nat)) := [((6, 0), [(0, 1), (1, 5)]), ((1, 0), [(0, 2), (1, 3), (2, 4)]), ((100, 80), []), ((100, 80), []), ((100, 8), []), ((5, 0), [(0, 6)]), ((100, 12), [])]
def TWays : List ((Nat × Nat) × List (Nat × Nat)) := [((10, 0), [(0, 1), (1, 2), (2, 3)]), ((100, 10), []), ((100, 100), []), ((100, 10240), [])]
def TExplainer : List ((Nat × Nat) × List (Nat × Nat)) := [((0, 0), [(0, 1), (1, 2), (2, 3)]), ((102, 9), [(0, 4), (1, 6), (2, 8), (3, 10), (4, 12), (5, 14), (6, 16), (7, 18), (8, 20)]), ((100, 9), []), ((100, 8), []), ((5, 0), [(0, 5)]), ((100, 12), []), ((5, 0), [(0, 7)]), ((100, 12), []), ((5, 0), [(0, 9)]), ((100, 12), []), ((5, 0), [(0, 11)]), ((100, 12), []), ((5, 0), [(0, 13)]), ((100, 12), []), ((5, 0), [(0, 15)]), ((100, 12), []), ((5, 0), [(0, 17)]), ((100, 12), []), ((5, 0), [(0, 19)]), ((100, 12), []), ((5, 0), [(0, 21)]), ((100, 12), [])]
def TPlan : List ((Nat × Nat) × List (Nat × Nat)) := [((4, 0), [(0, 1), (1, 2), (2, 3), (3, 4), (4, 5), (5, 6), (6, 7), (7, 8), (8, 9), (9, 10), (10, 11)]), ((100, 100), []), ((100, 100), []), ((100, 100), []), ((100, 100), []), ((100, 100), []), ((100, 100), []), ((100, 100), []), ((100, 100), []), ((100, 200), []), ((100, 200), []), ((100, 200), [])]
def TGC : List ((Nat × Nat) × List (Nat × Nat)) := [((11, 0), [(0, 1), (1, 3), (2, 4), (3, 16), (4, 17), (5, 82), (6, 24), (7, 89), (8, 28), (9, 30), (10, 32)]), ((8, 0), [(0, 2)]), ((100, 600), []), ((100, 4), []), ((7, 0), [(0, 5), (1, 9), (2, 11), (3, 13), (4, 14), (5, 15)]), ((1, 0), [(0, 6), (1, 7), (2, 8)]), ((100, 80), []), ((100, 80), []), ((100, 8), []), ((5, 0), [(0, 10)]), ((100, 12), []), ((5, 0), [(0, 12)]), ((100, 12), []), ((100, 9), []), ((100, 9), []), ((100, 3840), []), ((103, 3), [(0, 111), (1, 123), (2, 135)]), ((9, 0), [(0, 18), (1, 22), (2, 23)]), ((1, 0), [(0, 19), (1, 20), (2, 21)]), ((100, 80), []), ((100, 80), []), ((100, 8), []), ((100, 96), []), ((100, 12), []), ((10, 0), [(0, 25), (1, 26), (2, 27)]), ((100, 10), []), ((100, 100), []), ((100, 10240), []), ((5, 0), [(0, 29)]), ((100, 12), []), ((5, 0), [(0, 31)]), ((100, 12), []), ((1, 0), [(0, 33), (1, 34), (2, 35)]), ((100, 80), []), ((100, 80), []), ((100, 8), []), ((2, 0), [(0, 37), (1, 38), (2, 39), (3, 40), (4, 41), (5, 42), (6, 43)]), ((100, 10), []), ((100, 100), []), ((100, 8), []), ((100, 8), []), ((100, 8), []), ((100, 80), []), ((3, 0), [(0, 44), (1, 45), (2, 46)]), ((100, 600), []), ((100, 32), []), ((100, 5), []), ((2, 0), [(0, 48), (1, 49), (2, 50), (3, 51), (4, 52), (5, 53), (6, 54)]), ((100, 10), []), ((100, 100), []), ((100, 8), []), ((100, 8), []), ((100, 8), []), ((100, 80), []), ((3, 0), [(0, 55), (1, 56), (2, 57)]), ((100, 600), []), ((100, 32), []), ((100, 5), []), ((4, 0), [(0, 59), (1, 60), (2, 61), (3, 62), (4, 63), (5, 64), (6, 65), (7, 66), (8, 67), (9, 68), (10, 69)]), ((100, 100), []), ((100, 100), []), ((100, 100), []), ((100, 100), []), ((100, 100), []), ((100, 100), []), ((100, 100), []), ((100, 100), []), ((100, 200), []), ((100, 200), []), ((100, 200), []), ((4, 0), [(0, 71), (1, 72), (2, 73), (3, 74), (4, 75), (5, 76), (6, 77), (7, 78), (8, 79), (9, 80), (10, 81)]), ((100, 100), []), ((100, 100), []), ((100, 100), []), ((100, 100), []), ((100, 100), []), ((100, 100), []), ((100, 100), []), ((100, 100), []), ((100, 200), []), ((100, 200), []), ((100, 200), []), ((6, 0), [(0, 83), (1, 87)]), ((1, 0), [(0, 84), (1, 85), (2, 86)]), ((100, 80), []), ((100, 80), []), ((100, 8), []), ((5, 0), [(0, 88)]), ((100, 12), []), ((0, 0), [(0, 90), (1, 91), (2, 92), (4, 4)]), ((102, 9), [(0, 93), (1, 95), (2, 97), (3, 99), (4, 101), (5, 103), (6, 105), (7, 107), (8, 109)]), ((100, 9), []), ((100, 8), []), ((5, 0), [(0, 94)]), ((100, 12), []), ((5, 0), [(0, 96)]), ((100, 12), []), ((5, 0), [(0, 98)]), ((100, 12), []), ((5, 0), [(0, 100)]), ((100, 12), []), ((5, 0), [(0, 102)]), ((100, 12), []), ((5, 0), [(0, 104)]), ((100, 12), []), ((5, 0), [(0, 106)]), ((100, 12), []), ((5, 0), [(0, 108)]), ((100, 12), []), ((5, 0), [(0, 110)]), ((100, 12), []), ((7, 0), [(0, 112), (1, 116), (2, 118), (3, 120), (4, 121), (5, 122)]), ((1, 0), [(0, 113), (1, 114), (2, 115)]), ((100, 80), []), ((100, 80), []), ((100, 8), []), ((5, 0), [(0, 117)]), ((100, 12), []), ((5, 0), [(0, 119)]), ((100, 12), []), ((100, 9), []), ((100, 9), []), ((100, 3840), []), ((7, 0), [(0, 124), (1, 128), (2, 130), (3, 132), (4, 133), (5, 134)]), ((1, 0), [(0, 125), (1, 126), (2, 127)]), ((100, 80), []), ((100, 80), []), ((100, 8), []), ((5, 0), [(0, 129)]), ((100, 12), []), ((5, 0), [(0, 131)]), ((100, 12), []), ((100, 9), []), ((100, 9), []), ((100, 3840), []), ((7, 0), [(0, 136), (1, 140), (2, 142), (3, 144), (4, 145), (5, 146)]), ((1, 0), [(0, 137), (1, 138), (2, 139)]), ((100, 80), []), ((100, 80), []), ((100, 8), []), ((5, 0), [(0, 141)]), ((100, 12), []), ((5, 0), [(0, 143)]), ((100, 12), []), ((100, 9), []), ((100, 9), []), ((100, 3840), [])]
theorem s_Row_0 {X : jx_X} {R : jx_R} {a : Nat} (h : BX X R a TRow) : X.2.1 a = some (5, 0) := BX_s h 0 _ rfl
theorem r_Row_0_0 {X : jx_X} {R : jx_R} {a : Nat} (h : BX X R a TRow) : R a 0 = some (a + 1) := BX_r h 0 _ rfl (0, 1) (by decide)
theorem s_Row_1 {X : jx_X} {R : jx_R} {a : Nat} (h : BX X R a TRow) : X.2.1 (a + 1) = some (100, 12) := BX_s h 1 _ rfl
theorem s_Herd_0 {X : jx_X} {R : jx_R} {a : Nat} (h : BX X R a THerd) : X.2.1 a = some (1, 0) := BX_s h 0 _ rfl
theorem r_Herd_0_0 {X : jx_X} {R : jx_R} {a : Nat} (h : BX X R a THerd) : R a 0 = some (a + 1) := BX_r h 0 _ rfl (0, 1) (by decide)
theorem r_Herd_0_1 {X : jx_X} {R : jx_R} {a : Nat} (h : BX X R a THerd) : R a 1 = some (a + 2) := BX_r h 0 _ rfl (1, 2) (by decide)
theorem r_Herd_0_2 {X : jx_X} {R : jx_R} {a : Nat} (h : BX X R a THerd) : R a 2 = some (a + 3) := BX_r h 0 _ rfl (2, 3) (by decide)
theorem s_Herd_1 {X : jx_X} {R : jx_R} {a : Nat} (h : BX X R a THerd) : X.2.1 (a + 1) = some (100, 80) := BX_s h 1 _ rfl
theorem s_Herd_2 {X : jx_X} {R : jx_R} {a : Nat} (h : BX X R a THerd) : X.2.1 (a + 2) = some (100, 80) := BX_s h 2 _ rfl
theorem s_Herd_3 {X : jx_X} {R : jx_R} {a : Nat} (h : BX X R a THerd) : X.2.1 (a + 3) = some (100, 8) := BX_s h 3 _ rfl
theorem s_Law_0 {X : jx_X} {R : jx_R} {a : Nat} (h : BX X R a TLaw) : X.2.1 a = some (3, 0) := BX_s h 0 _ rfl
theorem r_Law_0_0 {X : jx_X} {R : jx_R} {a : Nat} (h : BX X R a TLaw) : R a 0 = some (a + 1) := BX_r h 0 _ rfl (0, 1) (by decide)
theorem r_Law_0_1 {X : jx_X} {R : jx_R} {a : Nat} (h : BX X R a TLaw) : R a 1 = some (a + 2) := BX_r h 0 _ rfl (1, 2) (by decide)
theorem r_Law_0_2 {X : jx_X} {R : jx_R} {a : Nat} (h : BX X R a TLaw) : R a 2 = some (a + 3) := BX_r h 0 _ rfl (2, 3) (by decide)
theorem s_Law_1 {X : jx_X} {R : jx_R} {a : Nat} (h : BX X R a TLaw) : X.2.1 (a + 1) = some (100, 600) := BX_s h 1 _ rfl
theorem s_Law_2 {X : jx_X} {R : jx_R} {a : Nat} (h : BX X R a TLaw) : X.2.1 (a + 2) = some (100, 32) := BX_s h 2 _ rfl
theorem s_Law_3 {X : jx_X} {R : jx_R} {a : Nat} (h : BX X R a TLaw) : X.2.1 (a + 3) = some (100, 5) := BX_s h 3 _ rfl
theorem s_Land_0 {X : jx_X} {R : jx_R} {a : Nat} (h : BX X R a TLand) : X.2.1 a = some (2, 0) := BX_s h 0 _ rfl
theorem r_Land_0_0 {X : jx_X} {R : jx_R} {a : Nat} (h : BX X R a TLand) : R a 0 = some (a + 1) := BX_r h 0 _ rfl (0, 1) (by decide)
theorem r_Land_0_1 {X : jx_X} {R : jx_R} {a : Nat} (h : BX X R a TLand) : R a 1 = some (a + 2) := BX_r h 0 _ rfl (1, 2) (by decide)
theorem r_Land_0_2 {X : jx_X} {R : jx_R} {a : Nat} (h : BX X R a TLand) : R a 2 = some (a + 3) := BX_r h 0 _ rfl (2, 3) (by decide)
theorem r_Land_0_3 {X : jx_X} {R : jx_R} {a : Nat} (h : BX X R a TLand) : R a 3 = some (a + 4) := BX_r h 0 _ rfl (3, 4) (by decide)
theorem r_Land_0_4 {X : jx_X} {R : jx_R} {a : Nat} (h : BX X R a TLand) : R a 4 = some (a + 5) := BX_r h 0 _ rfl (4, 5) (by decide)
theorem r_Land_0_5 {X : jx_X} {R : jx_R} {a : Nat} (h : BX X R a TLand) : R a 5 = some (a + 6) := BX_r h 0 _ rfl (5, 6) (by decide)
theorem r_Land_0_6 {X : jx_X} {R : jx_R} {a : Nat} (h : BX X R a TLand) : R a 6 = some (a + 7) := BX_r h 0 _ rfl (6, 7) (by decide)
theorem s_Land_1 {X : jx_X} {R : jx_R} {a : Nat} (h : BX X R a TLand) : X.2.1 (a + 1) = some (100, 10) := BX_s h 1 _ rfl
theorem s_Land_2 {X : jx_X} {R : jx_R} {a : Nat} (h : BX X R a TLand) : X.2.1 (a + 2) = some (100, 100) := BX_s h 2 _ rfl
theorem s_Land_3 {X : jx_X} {R : jx_R} {a : Nat} (h : BX X R a TLand) : X.2.1 (a + 3) = some (100, 8) := BX_s h 3 _ rfl
theorem s_Land_4 {X : jx_X} {R : jx_R} {a : Nat} (h : BX X R a TLand) : X.2.1 (a + 4) = some (100, 8) := BX_s h 4 _ rfl
theorem s_Land_5 {X : jx_X} {R : jx_R} {a : Nat} (h : BX X R a TLand) : X.2.1 (a + 5) = some (100, 8) := BX_s h 5 _ rfl
theorem s_Land_6 {X : jx_X} {R : jx_R} {a : Nat} (h : BX X R a TLand) : X.2.1 (a + 6) = some (100, 80) := BX_s h 6 _ rfl
theorem b_Land_7 {X : jx_X} {R : jx_R} {a : Nat} (h : BX X R a TLand) : BX X R (a + 7) TLaw := BX_sub h 7 TLaw (by decide +kernel)
theorem s_Tape_0 {X : jx_X} {R : jx_R} {a : Nat} (h : BX X R a TTape) : X.2.1 a = some (8, 0) := BX_s h 0 _ rfl
theorem r_Tape_0_0 {X : jx_X} {R : jx_R} {a : Nat} (h : BX X R a TTape) : R a 0 = some (a + 1) := BX_r h 0 _ rfl (0, 1) (by decide)
theorem s_Tape_1 {X : jx_X} {R : jx_R} {a : Nat} (h : BX X R a TTape) : X.2.1 (a + 1) = some (100, 600) := BX_s h 1 _ rfl
theorem s_State_0 {X : jx_X} {R : jx_R} {a : Nat} (h : BX X R a TState) : X.2.1 a = some (7, 0) := BX_s h 0 _ rfl
theorem r_State_0_0 {X : jx_X} {R : jx_R} {a : Nat} (h : BX X R a TState) : R a 0 = some (a + 1) := BX_r h 0 _ rfl (0, 1) (by decide)
theorem r_State_0_1 {X : jx_X} {R : jx_R} {a : Nat} (h : BX X R a TState) : R a 1 = some (a + 5) := BX_r h 0 _ rfl (1, 5) (by decide)
theorem r_State_0_2 {X : jx_X} {R : jx_R} {a : Nat} (h : BX X R a TState) : R a 2 = some (a + 7) := BX_r h 0 _ rfl (2, 7) (by decide)
theorem r_State_0_3 {X : jx_X} {R : jx_R} {a : Nat} (h : BX X R a TState) : R a 3 = some (a + 9) := BX_r h 0 _ rfl (3, 9) (by decide)
theorem r_State_0_4 {X : jx_X} {R : jx_R} {a : Nat} (h : BX X R a TState) : R a 4 = some (a + 10) := BX_r h 0 _ rfl (4, 10) (by decide)
theorem r_State_0_5 {X : jx_X} {R : jx_R} {a : Nat} (h : BX X R a TState) : R a 5 = some (a + 11) := BX_r h 0 _ rfl (5, 11) (by decide)
theorem s_State_9 {X : jx_X} {R : jx_R} {a : Nat} (h : BX X R a TState) : X.2.1 (a + 9) = some (100, 9) := BX_s h 9 _ rfl
theorem s_State_10 {X : jx_X} {R : jx_R} {a : Nat} (h : BX X R a TState) : X.2.1 (a + 10) = some (100, 9) := BX_s h 10 _ rfl
theorem s_State_11 {X : jx_X} {R : jx_R} {a : Nat} (h : BX X R a TState) : X.2.1 (a + 11) = some (100, 3840) := BX_s h 11 _ rfl
theorem b_State_1 {X : jx_X} {R : jx_R} {a : Nat} (h : BX X R a TState) : BX X R (a + 1) THerd := BX_sub h 1 THerd (by decide +kernel)
theorem b_State_5 {X : jx_X} {R : jx_R} {a : Nat} (h : BX X R a TState) : BX X R (a + 5) TRow := BX_sub h 5 TRow (by decide +kernel)
theorem b_State_7 {X : jx_X} {R : jx_R} {a : Nat} (h : BX X R a TState) : BX X R (a + 7) TRow := BX_sub h 7 TRow (by decide +kernel)
theorem s_Trip_0 {X : jx_X} {R : jx_R} {a : Nat} (h : BX X R a TTrip) : X.2.1 a = some (9, 0) := BX_s h 0 _ rfl
theorem r_Trip_0_0 {X : jx_X} {R : jx_R} {a : Nat} (h : BX X R a TTrip) : R a 0 = some (a + 1) := BX_r h 0 _ rfl (0, 1) (by decide)
theorem r_Trip_0_1 {X : jx_X} {R : jx_R} {a : Nat} (h : BX X R a TTrip) : R a 1 = some (a + 5) := BX_r h 0 _ rfl (1, 5) (by decide)
theorem r_Trip_0_2 {X : jx_X} {R : jx_R} {a : Nat} (h : BX X R a TTrip) : R a 2 = some (a + 6) := BX_r h 0 _ rfl (2, 6) (by decide)
theorem s_Trip_5 {X : jx_X} {R : jx_R} {a : Nat} (h : BX X R a TTrip) : X.2.1 (a + 5) = some (100, 96) := BX_s h 5 _ rfl
theorem s_Trip_6 {X : jx_X} {R : jx_R} {a : Nat} (h : BX X R a TTrip) : X.2.1 (a + 6) = some (100, 12) := BX_s h 6 _ rfl
theorem b_Trip_1 {X : jx_X} {R : jx_R} {a : Nat} (h : BX X R a TTrip) : BX X R (a + 1) THerd := BX_sub h 1 THerd (by decide +kernel)
theorem s_Runner_0 {X : jx_X} {R : jx_R} {a : Nat} (h : BX X R a TRunner) : X.2.1 a = some (6, 0) := BX_s h 0 _ rfl
theorem r_Runner_0_0 {X : jx_X} {R : jx_R} {a : Nat} (h : BX X R a TRunner) : R a 0 = some (a + 1) := BX_r h 0 _ rfl (0, 1) (by decide)
theorem r_Runner_0_1 {X : jx_X} {R : jx_R} {a : Nat} (h : BX X R a TRunner) : R a 1 = some (a + 5) := BX_r h 0 _ rfl (1, 5) (by decide)
theorem b_Runner_1 {X : jx_X} {R : jx_R} {a : Nat} (h : BX X R a TRunner) : BX X R (a + 1) THerd := BX_sub h 1 THerd (by decide +kernel)
theorem b_Runner_5 {X : jx_X} {R : jx_R} {a : Nat} (h : BX X R a TRunner) : BX X R (a + 5) TRow := BX_sub h 5 TRow (by decide +kernel)
theorem s_Ways_0 {X : jx_X} {R : jx_R} {a : Nat} (h : BX X R a TWays) : X.2.1 a = some (10, 0) := BX_s h 0 _ rfl
theorem r_Ways_0_0 {X : jx_X} {R : jx_R} {a : Nat} (h : BX X R a TWays) : R a 0 = some (a + 1) := BX_r h 0 _ rfl (0, 1) (by decide)
theorem r_Ways_0_1 {X : jx_X} {R : jx_R} {a : Nat} (h : BX X R a TWays) : R a 1 = some (a + 2) := BX_r h 0 _ rfl (1, 2) (by decide)
theorem r_Ways_0_2 {X : jx_X} {R : jx_R} {a : Nat} (h : BX X R a TWays) : R a 2 = some (a + 3) := BX_r h 0 _ rfl (2, 3) (by decide)
theorem s_Ways_1 {X : jx_X} {R : jx_R} {a : Nat} (h : BX X R a TWays) : X.2.1 (a + 1) = some (100, 10) := BX_s h 1 _ rfl
theorem s_Ways_2 {X : jx_X} {R : jx_R} {a : Nat} (h : BX X R a TWays) : X.2.1 (a + 2) = some (100, 100) := BX_s h 2 _ rfl
theorem s_Ways_3 {X : jx_X} {R : jx_R} {a : Nat} (h : BX X R a TWays) : X.2.1 (a + 3) = some (100, 10240) := BX_s h 3 _ rfl
theorem s_Explainer_0 {X : jx_X} {R : jx_R} {a : Nat} (h : BX X R a TExplainer) : X.2.1 a = some (0, 0) := BX_s h 0 _ rfl
theorem r_Explainer_0_0 {X : jx_X} {R : jx_R} {a : Nat} (h : BX X R a TExplainer) : R a 0 = some (a + 1) := BX_r h 0 _ rfl (0, 1) (by decide)
theorem r_Explainer_0_1 {X : jx_X} {R : jx_R} {a : Nat} (h : BX X R a TExplainer) : R a 1 = some (a + 2) := BX_r h 0 _ rfl (1, 2) (by decide)
theorem r_Explainer_0_2 {X : jx_X} {R : jx_R} {a : Nat} (h : BX X R a TExplainer) : R a 2 = some (a + 3) := BX_r h 0 _ rfl (2, 3) (by decide)
theorem s_Explainer_1 {X : jx_X} {R : jx_R} {a : Nat} (h : BX X R a TExplainer) : X.2.1 (a + 1) = some (102, 9) := BX_s h 1 _ rfl
theorem r_Explainer_1_0 {X : jx_X} {R : jx_R} {a : Nat} (h : BX X R a TExplainer) : R (a + 1) 0 = some (a + 4) := BX_r h 1 _ rfl (0, 4) (by decide)
theorem r_Explainer_1_1 {X : jx_X} {R : jx_R} {a : Nat} (h : BX X R a TExplainer) : R (a + 1) 1 = some (a + 6) := BX_r h 1 _ rfl (1, 6) (by decide)
theorem r_Explainer_1_2 {X : jx_X} {R : jx_R} {a : Nat} (h : BX X R a TExplainer) : R (a + 1) 2 = some (a + 8) := BX_r h 1 _ rfl (2, 8) (by decide)
theorem r_Explainer_1_3 {X : jx_X} {R : jx_R} {a : Nat} (h : BX X R a TExplainer) : R (a + 1) 3 = some (a + 10) := BX_r h 1 _ rfl (3, 10) (by decide)
theorem r_Explainer_1_4 {X : jx_X} {R : jx_R} {a : Nat} (h : BX X R a TExplainer) : R (a + 1) 4 = some (a + 12) := BX_r h 1 _ rfl (4, 12) (by decide)
theorem r_Explainer_1_5 {X : jx_X} {R : jx_R} {a : Nat} (h : BX X R a TExplainer) : R (a + 1) 5 = some (a + 14) := BX_r h 1 _ rfl (5, 14) (by decide)
theorem r_Explainer_1_6 {X : jx_X} {R : jx_R} {a : Nat} (h : BX X R a TExplainer) : R (a + 1) 6 = some (a + 16) := BX_r h 1 _ rfl (6, 16) (by decide)
theorem r_Explainer_1_7 {X : jx_X} {R : jx_R} {a : Nat} (h : BX X R a TExplainer) : R (a + 1) 7 = some (a + 18) := BX_r h 1 _ rfl (7, 18) (by decide)
theorem r_Explainer_1_8 {X : jx_X} {R : jx_R} {a : Nat} (h : BX X R a TExplainer) : R (a + 1) 8 = some (a + 20) := BX_r h 1 _ rfl (8, 20) (by decide)
theorem s_Explainer_2 {X : jx_X} {R : jx_R} {a : Nat} (h : BX X R a TExplainer) : X.2.1 (a + 2) = some (100, 9) := BX_s h 2 _ rfl
theorem s_Explainer_3 {X : jx_X} {R : jx_R} {a : Nat} (h : BX X R a TExplainer) : X.2.1 (a + 3) = some (100, 8) := BX_s h 3 _ rfl
theorem b_Explainer_4 {X : jx_X} {R : jx_R} {a : Nat} (h : BX X R a TExplainer) : BX X R (a + 4) TRow := BX_sub h 4 TRow (by decide +kernel)
theorem b_Explainer_6 {X : jx_X} {R : jx_R} {a : Nat} (h : BX X R a TExplainer) : BX X R (a + 6) TRow := BX_sub h 6 TRow (by decide +kernel)
theorem b_Explainer_8 {X : jx_X} {R : jx_R} {a : Nat} (h : BX X R a TExplainer) : BX X R (a + 8) TRow := BX_sub h 8 TRow (by decide +kernel)
theorem b_Explainer_10 {X : jx_X} {R : jx_R} {a : Nat} (h : BX X R a TExplainer) : BX X R (a + 10) TRow := BX_sub h 10 TRow (by decide +kernel)
theorem b_Explainer_12 {X : jx_X} {R : jx_R} {a : Nat} (h : BX X R a TExplainer) : BX X R (a + 12) TRow := BX_sub h 12 TRow (by decide +kernel)
theorem b_Explainer_14 {X : jx_X} {R : jx_R} {a : Nat} (h : BX X R a TExplainer) : BX X R (a + 14) TRow := BX_sub h 14 TRow (by decide +kernel)
theorem b_Explainer_16 {X : jx_X} {R : jx_R} {a : Nat} (h : BX X R a TExplainer) : BX X R (a + 16) TRow := BX_sub h 16 TRow (by decide +kernel)
theorem b_Explainer_18 {X : jx_X} {R : jx_R} {a : Nat} (h : BX X R a TExplainer) : BX X R (a + 18) TRow := BX_sub h 18 TRow (by decide +kernel)
theorem b_Explainer_20 {X : jx_X} {R : jx_R} {a : Nat} (h : BX X R a TExplainer) : BX X R (a + 20) TRow := BX_sub h 20 TRow (by decide +kernel)
theorem s_Plan_0 {X : jx_X} {R : jx_R} {a : Nat} (h : BX X R a TPlan) : X.2.1 a = some (4, 0) := BX_s h 0 _ rfl
theorem r_Plan_0_0 {X : jx_X} {R : jx_R} {a : Nat} (h : BX X R a TPlan) : R a 0 = some (a + 1) := BX_r h 0 _ rfl (0, 1) (by decide)
theorem r_Plan_0_1 {X : jx_X} {R : jx_R} {a : Nat} (h : BX X R a TPlan) : R a 1 = some (a + 2) := BX_r h 0 _ rfl (1, 2) (by decide)
theorem r_Plan_0_2 {X : jx_X} {R : jx_R} {a : Nat} (h : BX X R a TPlan) : R a 2 = some (a + 3) := BX_r h 0 _ rfl (2, 3) (by decide)
theorem r_Plan_0_3 {X : jx_X} {R : jx_R} {a : Nat} (h : BX X R a TPlan) : R a 3 = some (a + 4) := BX_r h 0 _ rfl (3, 4) (by decide)
theorem r_Plan_0_4 {X : jx_X} {R : jx_R} {a : Nat} (h : BX X R a TPlan) : R a 4 = some (a + 5) := BX_r h 0 _ rfl (4, 5) (by decide)
theorem r_Plan_0_5 {X : jx_X} {R : jx_R} {a : Nat} (h : BX X R a TPlan) : R a 5 = some (a + 6) := BX_r h 0 _ rfl (5, 6) (by decide)
theorem r_Plan_0_6 {X : jx_X} {R : jx_R} {a : Nat} (h : BX X R a TPlan) : R a 6 = some (a + 7) := BX_r h 0 _ rfl (6, 7) (by decide)
theorem r_Plan_0_7 {X : jx_X} {R : jx_R} {a : Nat} (h : BX X R a TPlan) : R a 7 = some (a + 8) := BX_r h 0 _ rfl (7, 8) (by decide)
theorem r_Plan_0_8 {X : jx_X} {R : jx_R} {a : Nat} (h : BX X R a TPlan) : R a 8 = some (a + 9) := BX_r h 0 _ rfl (8, 9) (by decide)
theorem r_Plan_0_9 {X : jx_X} {R : jx_R} {a : Nat} (h : BX X R a TPlan) : R a 9 = some (a + 10) := BX_r h 0 _ rfl (9, 10) (by decide)
theorem r_Plan_0_10 {X : jx_X} {R : jx_R} {a : Nat} (h : BX X R a TPlan) : R a 10 = some (a + 11) := BX_r h 0 _ rfl (10, 11) (by decide)
theorem s_Plan_1 {X : jx_X} {R : jx_R} {a : Nat} (h : BX X R a TPlan) : X.2.1 (a + 1) = some (100, 100) := BX_s h 1 _ rfl
theorem s_Plan_2 {X : jx_X} {R : jx_R} {a : Nat} (h : BX X R a TPlan) : X.2.1 (a + 2) = some (100, 100) := BX_s h 2 _ rfl
theorem s_Plan_3 {X : jx_X} {R : jx_R} {a : Nat} (h : BX X R a TPlan) : X.2.1 (a + 3) = some (100, 100) := BX_s h 3 _ rfl
theorem s_Plan_4 {X : jx_X} {R : jx_R} {a : Nat} (h : BX X R a TPlan) : X.2.1 (a + 4) = some (100, 100) := BX_s h 4 _ rfl
theorem s_Plan_5 {X : jx_X} {R : jx_R} {a : Nat} (h : BX X R a TPlan) : X.2.1 (a + 5) = some (100, 100) := BX_s h 5 _ rfl
theorem s_Plan_6 {X : jx_X} {R : jx_R} {a : Nat} (h : BX X R a TPlan) : X.2.1 (a + 6) = some (100, 100) := BX_s h 6 _ rfl
theorem s_Plan_7 {X : jx_X} {R : jx_R} {a : Nat} (h : BX X R a TPlan) : X.2.1 (a + 7) = some (100, 100) := BX_s h 7 _ rfl
theorem s_Plan_8 {X : jx_X} {R : jx_R} {a : Nat} (h : BX X R a TPlan) : X.2.1 (a + 8) = some (100, 100) := BX_s h 8 _ rfl
theorem s_Plan_9 {X : jx_X} {R : jx_R} {a : Nat} (h : BX X R a TPlan) : X.2.1 (a + 9) = some (100, 200) := BX_s h 9 _ rfl
theorem s_Plan_10 {X : jx_X} {R : jx_R} {a : Nat} (h : BX X R a TPlan) : X.2.1 (a + 10) = some (100, 200) := BX_s h 10 _ rfl
theorem s_Plan_11 {X : jx_X} {R : jx_R} {a : Nat} (h : BX X R a TPlan) : X.2.1 (a + 11) = some (100, 200) := BX_s h 11 _ rfl
theorem s_GC_0 {X : jx_X} {R : jx_R} {a : Nat} (h : BX X R a TGC) : X.2.1 a = some (11, 0) := BX_s h 0 _ rfl
theorem r_GC_0_0 {X : jx_X} {R : jx_R} {a : Nat} (h : BX X R a TGC) : R a 0 = some (a + 1) := BX_r h 0 _ rfl (0, 1) (by decide)
theorem r_GC_0_1 {X : jx_X} {R : jx_R} {a : Nat} (h : BX X R a TGC) : R a 1 = some (a + 3) := BX_r h 0 _ rfl (1, 3) (by decide)
theorem r_GC_0_2 {X : jx_X} {R : jx_R} {a : Nat} (h : BX X R a TGC) : R a 2 = some (a + 4) := BX_r h 0 _ rfl (2, 4) (by decide)
theorem r_GC_0_3 {X : jx_X} {R : jx_R} {a : Nat} (h : BX X R a TGC) : R a 3 = some (a + 16) := BX_r h 0 _ rfl (3, 16) (by decide)
theorem r_GC_0_4 {X : jx_X} {R : jx_R} {a : Nat} (h : BX X R a TGC) : R a 4 = some (a + 17) := BX_r h 0 _ rfl (4, 17) (by decide)
theorem r_GC_0_5 {X : jx_X} {R : jx_R} {a : Nat} (h : BX X R a TGC) : R a 5 = some (a + 82) := BX_r h 0 _ rfl (5, 82) (by decide)
theorem r_GC_0_6 {X : jx_X} {R : jx_R} {a : Nat} (h : BX X R a TGC) : R a 6 = some (a + 24) := BX_r h 0 _ rfl (6, 24) (by decide)
theorem r_GC_0_7 {X : jx_X} {R : jx_R} {a : Nat} (h : BX X R a TGC) : R a 7 = some (a + 89) := BX_r h 0 _ rfl (7, 89) (by decide)
theorem r_GC_0_8 {X : jx_X} {R : jx_R} {a : Nat} (h : BX X R a TGC) : R a 8 = some (a + 28) := BX_r h 0 _ rfl (8, 28) (by decide)
theorem r_GC_0_9 {X : jx_X} {R : jx_R} {a : Nat} (h : BX X R a TGC) : R a 9 = some (a + 30) := BX_r h 0 _ rfl (9, 30) (by decide)
theorem r_GC_0_10 {X : jx_X} {R : jx_R} {a : Nat} (h : BX X R a TGC) : R a 10 = some (a + 32) := BX_r h 0 _ rfl (10, 32) (by decide)
theorem s_GC_3 {X : jx_X} {R : jx_R} {a : Nat} (h : BX X R a TGC) : X.2.1 (a + 3) = some (100, 4) := BX_s h 3 _ rfl
theorem s_GC_16 {X : jx_X} {R : jx_R} {a : Nat} (h : BX X R a TGC) : X.2.1 (a + 16) = some (103, 3) := BX_s h 16 _ rfl
theorem r_GC_16_0 {X : jx_X} {R : jx_R} {a : Nat} (h : BX X R a TGC) : R (a + 16) 0 = some (a + 111) := BX_r h 16 _ rfl (0, 111) (by decide)
theorem r_GC_16_1 {X : jx_X} {R : jx_R} {a : Nat} (h : BX X R a TGC) : R (a + 16) 1 = some (a + 123) := BX_r h 16 _ rfl (1, 123) (by decide)
theorem r_GC_16_2 {X : jx_X} {R : jx_R} {a : Nat} (h : BX X R a TGC) : R (a + 16) 2 = some (a + 135) := BX_r h 16 _ rfl (2, 135) (by decide)
theorem b_GC_1 {X : jx_X} {R : jx_R} {a : Nat} (h : BX X R a TGC) : BX X R (a + 1) TTape := BX_sub h 1 TTape (by decide +kernel)
theorem b_GC_4 {X : jx_X} {R : jx_R} {a : Nat} (h : BX X R a TGC) : BX X R (a + 4) TState := BX_sub h 4 TState (by decide +kernel)
theorem b_GC_5 {X : jx_X} {R : jx_R} {a : Nat} (h : BX X R a TGC) : BX X R (a + 5) THerd := BX_sub h 5 THerd (by decide +kernel)
theorem b_GC_9 {X : jx_X} {R : jx_R} {a : Nat} (h : BX X R a TGC) : BX X R (a + 9) TRow := BX_sub h 9 TRow (by decide +kernel)
theorem b_GC_11 {X : jx_X} {R : jx_R} {a : Nat} (h : BX X R a TGC) : BX X R (a + 11) TRow := BX_sub h 11 TRow (by decide +kernel)
theorem b_GC_17 {X : jx_X} {R : jx_R} {a : Nat} (h : BX X R a TGC) : BX X R (a + 17) TTrip := BX_sub h 17 TTrip (by decide +kernel)
theorem b_GC_18 {X : jx_X} {R : jx_R} {a : Nat} (h : BX X R a TGC) : BX X R (a + 18) THerd := BX_sub h 18 THerd (by decide +kernel)
theorem b_GC_24 {X : jx_X} {R : jx_R} {a : Nat} (h : BX X R a TGC) : BX X R (a + 24) TWays := BX_sub h 24 TWays (by decide +kernel)
theorem b_GC_28 {X : jx_X} {R : jx_R} {a : Nat} (h : BX X R a TGC) : BX X R (a + 28) TRow := BX_sub h 28 TRow (by decide +kernel)
theorem b_GC_30 {X : jx_X} {R : jx_R} {a : Nat} (h : BX X R a TGC) : BX X R (a + 30) TRow := BX_sub h 30 TRow (by decide +kernel)
theorem b_GC_32 {X : jx_X} {R : jx_R} {a : Nat} (h : BX X R a TGC) : BX X R (a + 32) THerd := BX_sub h 32 THerd (by decide +kernel)
theorem b_GC_36 {X : jx_X} {R : jx_R} {a : Nat} (h : BX X R a TGC) : BX X R (a + 36) TLand := BX_sub h 36 TLand (by decide +kernel)
theorem b_GC_43 {X : jx_X} {R : jx_R} {a : Nat} (h : BX X R a TGC) : BX X R (a + 43) TLaw := BX_sub h 43 TLaw (by decide +kernel)
theorem b_GC_47 {X : jx_X} {R : jx_R} {a : Nat} (h : BX X R a TGC) : BX X R (a + 47) TLand := BX_sub h 47 TLand (by decide +kernel)
theorem b_GC_54 {X : jx_X} {R : jx_R} {a : Nat} (h : BX X R a TGC) : BX X R (a + 54) TLaw := BX_sub h 54 TLaw (by decide +kernel)
theorem b_GC_58 {X : jx_X} {R : jx_R} {a : Nat} (h : BX X R a TGC) : BX X R (a + 58) TPlan := BX_sub h 58 TPlan (by decide +kernel)
theorem b_GC_70 {X : jx_X} {R : jx_R} {a : Nat} (h : BX X R a TGC) : BX X R (a + 70) TPlan := BX_sub h 70 TPlan (by decide +kernel)
theorem b_GC_82 {X : jx_X} {R : jx_R} {a : Nat} (h : BX X R a TGC) : BX X R (a + 82) TRunner := BX_sub h 82 TRunner (by decide +kernel)
theorem b_GC_83 {X : jx_X} {R : jx_R} {a : Nat} (h : BX X R a TGC) : BX X R (a + 83) THerd := BX_sub h 83 THerd (by decide +kernel)
theorem b_GC_87 {X : jx_X} {R : jx_R} {a : Nat} (h : BX X R a TGC) : BX X R (a + 87) TRow := BX_sub h 87 TRow (by decide +kernel)
theorem b_GC_89 {X : jx_X} {R : jx_R} {a : Nat} (h : BX X R a TGC) : BX X R (a + 89) TExplainer := BX_sub h 89 TExplainer (by decide +kernel)
theorem b_GC_93 {X : jx_X} {R : jx_R} {a : Nat} (h : BX X R a TGC) : BX X R (a + 93) TRow := BX_sub h 93 TRow (by decide +kernel)
theorem b_GC_95 {X : jx_X} {R : jx_R} {a : Nat} (h : BX X R a TGC) : BX X R (a + 95) TRow := BX_sub h 95 TRow (by decide +kernel)
theorem b_GC_97 {X : jx_X} {R : jx_R} {a : Nat} (h : BX X R a TGC) : BX X R (a + 97) TRow := BX_sub h 97 TRow (by decide +kernel)
theorem b_GC_99 {X : jx_X} {R : jx_R} {a : Nat} (h : BX X R a TGC) : BX X R (a + 99) TRow := BX_sub h 99 TRow (by decide +kernel)
theorem b_GC_101 {X : jx_X} {R : jx_R} {a : Nat} (h : BX X R a TGC) : BX X R (a + 101) TRow := BX_sub h 101 TRow (by decide +kernel)
theorem b_GC_103 {X : jx_X} {R : jx_R} {a : Nat} (h : BX X R a TGC) : BX X R (a + 103) TRow := BX_sub h 103 TRow (by decide +kernel)
theorem b_GC_105 {X : jx_X} {R : jx_R} {a : Nat} (h : BX X R a TGC) : BX X R (a + 105) TRow := BX_sub h 105 TRow (by decide +kernel)
theorem b_GC_107 {X : jx_X} {R : jx_R} {a : Nat} (h : BX X R a TGC) : BX X R (a + 107) TRow := BX_sub h 107 TRow (by decide +kernel)
theorem b_GC_109 {X : jx_X} {R : jx_R} {a : Nat} (h : BX X R a TGC) : BX X R (a + 109) TRow := BX_sub h 109 TRow (by decide +kernel)
theorem b_GC_111 {X : jx_X} {R : jx_R} {a : Nat} (h : BX X R a TGC) : BX X R (a + 111) TState := BX_sub h 111 TState (by decide +kernel)
theorem b_GC_112 {X : jx_X} {R : jx_R} {a : Nat} (h : BX X R a TGC) : BX X R (a + 112) THerd := BX_sub h 112 THerd (by decide +kernel)
theorem b_GC_116 {X : jx_X} {R : jx_R} {a : Nat} (h : BX X R a TGC) : BX X R (a + 116) TRow := BX_sub h 116 TRow (by decide +kernel)
theorem b_GC_118 {X : jx_X} {R : jx_R} {a : Nat} (h : BX X R a TGC) : BX X R (a + 118) TRow := BX_sub h 118 TRow (by decide +kernel)
theorem b_GC_123 {X : jx_X} {R : jx_R} {a : Nat} (h : BX X R a TGC) : BX X R (a + 123) TState := BX_sub h 123 TState (by decide +kernel)
theorem b_GC_124 {X : jx_X} {R : jx_R} {a : Nat} (h : BX X R a TGC) : BX X R (a + 124) THerd := BX_sub h 124 THerd (by decide +kernel)
theorem b_GC_128 {X : jx_X} {R : jx_R} {a : Nat} (h : BX X R a TGC) : BX X R (a + 128) TRow := BX_sub h 128 TRow (by decide +kernel)
theorem b_GC_130 {X : jx_X} {R : jx_R} {a : Nat} (h : BX X R a TGC) : BX X R (a + 130) TRow := BX_sub h 130 TRow (by decide +kernel)
theorem b_GC_135 {X : jx_X} {R : jx_R} {a : Nat} (h : BX X R a TGC) : BX X R (a + 135) TState := BX_sub h 135 TState (by decide +kernel)
theorem b_GC_136 {X : jx_X} {R : jx_R} {a : Nat} (h : BX X R a TGC) : BX X R (a + 136) THerd := BX_sub h 136 THerd (by decide +kernel)
theorem b_GC_140 {X : jx_X} {R : jx_R} {a : Nat} (h : BX X R a TGC) : BX X R (a + 140) TRow := BX_sub h 140 TRow (by decide +kernel)
theorem b_GC_142 {X : jx_X} {R : jx_R} {a : Nat} (h : BX X R a TGC) : BX X R (a + 142) TRow := BX_sub h 142 TRow (by decide +kernel)
/-- nothing outside lo .. hi changes -/
def FR (lo hi : Nat) (I I' : jx_I) : Prop := ∀ q, (q < lo ∨ hi ≤ q) → I' q = I q
theorem FR_refl {lo hi : Nat} {I : jx_I} : FR lo hi I I := fun _ _ => rfl
theorem FR_trans {lo hi : Nat} {I I' I2 : jx_I} (h : FR lo hi I I') (h2 : FR lo hi I' I2) : FR lo hi I I2 := fun q hq => (h2 q hq).trans (h q hq)
theorem FR_mono {lo hi lo2 hi2 : Nat} {I I' : jx_I} (h : FR lo hi I I') (h1 : lo2 ≤ lo) (h2 : hi ≤ hi2) : FR lo2 hi2 I I' := fun q hq => h q (by omega)
theorem FR_to {lo hi lo2 hi2 : Nat} {I I' I2 : jx_I} (h : FR lo hi I I') (h2 : FR lo2 hi2 I' I2) (h1 : lo ≤ lo2) (h3 : hi2 ≤ hi) : FR lo hi I I2 := fun q hq => (h2 q (by omega)).trans (h q hq)
theorem FR_u {lo hi a k : Nat} {I I' : jx_I} {v : Int32} (h : FR lo hi I I') (h1 : lo ≤ a) (h2 : a < hi) : FR lo hi I (jx_u I' a k v) := fun q hq => by
  rw [jx_u_r I' k v (by omega)]; exact h q hq
theorem FR_cp {lo hi a q sp dp n : Nat} {I I' : jx_I} (h : FR lo hi I I') (h1 : lo ≤ q) (h2 : q < hi) : FR lo hi I (jx_cp I' a q sp dp n) := fun p hp => by
  rw [← h p hp]
  funext k
  unfold jx_cp
  exact if_neg (fun e => by omega)
/-- a row holds a list of numbers -/
def RW (I : jx_I) (a : Nat) (L : List Nat) : Prop := (I a 1).toInt = L.length ∧ L.length ≤ 12 ∧ ∀ (k x : Nat), L[k]? = some x → (I (a + 1) k).toInt = (x : Int)
theorem RW_of {I I' : jx_I} {a : Nat} {L : List Nat} (h : RW I a L) (e : I' a = I a) (e1 : I' (a + 1) = I (a + 1)) : RW I' a L := by
  unfold RW
  rw [e, e1]
  exact h
theorem RW_fr {I I' : jx_I} {a lo hi : Nat} {L : List Nat} (h : RW I a L) (hf : FR lo hi I I') (ho : a + 1 < lo ∨ hi ≤ a) : RW I' a L := RW_of h (hf _ (by omega)) (hf _ (by omega))
theorem jz_ofI (n : Nat) : Int32.ofInt (n : Int) = nI n := by
  unfold nI
  first | rfl | simp
theorem jz_n {x : Int} {n : Nat} (h : x = n) (hn : n < 2147483648) : (Int32.ofInt x).toInt = n := by rw [h]; exact jy_toInt (by omega)
def bN (B k : Nat) : Nat := B / 2 ^ k % 2
theorem jz_smod : ∀ k, k < 32 → (((nI k &&& 31 : Int32)).toBitVec.smod 32).toNat = k := by decide +kernel
theorem jz_sh {B k : Nat} (hB : B < 2147483648) (hk : k < 32) : (Int32.ofInt (B : Int) >>> (Int32.ofInt (k : Int) &&& 31)) = nI (B / 2 ^ k) := by
  rw [jz_ofI, jz_ofI]
  exact pk_shrN (by omega) _ k (jz_smod k hk)
theorem jz_bit {B k : Nat} (hB : B < 2147483648) (hk : k < 32) : (Int32.ofInt ((Int32.ofInt (B : Int) >>> (Int32.ofInt (k : Int) &&& 31)).toInt) &&& Int32.ofInt 1).toInt = (bN B k : Int) := by
  rw [Int32.ofInt_toInt, jz_sh hB hk]
  have hq : B / 2 ^ k < 2 ^ 32 := Nat.lt_of_le_of_lt (Nat.div_le_self _ _) (by omega)
  rw [show (Int32.ofInt 1 : Int32) = 1 from rfl, pk_andN hq 1 (by decide)]
  exact nI_toInt (by omega)
theorem jz_1sh {k : Nat} (hk : k < 31) : (Int32.ofInt 1 <<< (Int32.ofInt (k : Int) &&& 31)).toInt = ((2 ^ k : Nat) : Int) := by
  have h : ∀ k, k < 31 → (Int32.ofInt 1 <<< (nI k &&& 31)).toInt = ((2 ^ k : Nat) : Int) := by decide +kernel
  rw [jz_ofI]
  exact h k hk
theorem bN_01 (B k : Nat) : bN B k = 0 ∨ bN B k = 1 := by unfold bN; omega
theorem bN_t (B k : Nat) : B.testBit k = decide (bN B k = 1) := by unfold bN; exact Nat.testBit_eq_decide_div_mod_eq
theorem ls_last {α : Type} {L : List α} {k : Nat} {x : α} (h : L[k]? = some x) : L.take (k + 1) = L.take k ++ [x] := by
  rw [List.take_add_one, h]; rfl
