theorem tt_g (a b c d : String) (i n : Nat) (y : MethodName) (v : Int32) (bb : ByteArray) (r : Option FieldType) (hh : List (Nat × Nat × Nat × Nat)) (t : FieldType) : goodWord (.fieldLink a i b c d) = true ∧ goodWord (.lays a b c d) = true ∧ goodWord (.laysFinal a b c d) = true ∧ goodWord (.instantiable a n) = true ∧ goodWord (.initialized a) = true ∧ goodWord (.methodLink a i y) = true ∧ goodWord (.instanceMethod y) = true ∧ goodWord (.static y) = true ∧ goodWord (.code y bb n r) = true ∧ goodWord (.codeWith y bb n r hh) = true ∧ goodWord (.selects a y y) = true ∧ goodWord (.classLink a i b) = true ∧ goodWord (.constant a i v) = true ∧ goodWord (.arrayClass t) = true ∧ goodWord (.arrayOver t) = true ∧ goodWord (.native y) = true := by
  refine ⟨rfl, rfl, rfl, rfl, rfl, rfl, rfl, rfl, rfl, rfl, rfl, rfl, rfl, rfl, rfl, rfl⟩
theorem tt_c (a b : String) : goodWord (.castable a b) = true := rfl
theorem tt_d (a b : String) (i : Nat): goodWord (.stringRef a i b) = true := rfl
theorem tt_e (a b c: String) (i : Nat): goodWord (.laysStatic a b c) = true := rfl
theorem tt_f (y : MethodName) (i : Nat): goodWord (.declares y) = true := rfl
theorem tt_h (a b c d: String) (i : Nat): goodWord (.sameMethod a b c d) = true := rfl
theorem tt_i (a b c d: String) (i : Nat): goodWord (.superclass a b) = true := rfl
theorem tt_j (y : MethodName) (i : Nat): goodWord (.privateMethod y) = true := rfl
theorem tt_k (a : String) (i : Nat) (v : Int64): goodWord (.constantLong a i v) = true := rfl
