/-! ===== texts: class Tape ===== -/
/-- a text's byte, -1 behind its end -/
def tat (T : List Int) (i : Nat) : Int := T.getD i (-1)
def isl (c : Int) : Bool := decide (97 ≤ c ∧ c ≤ 122)
def isd (c : Int) : Bool := decide (48 ≤ c ∧ c ≤ 57)
/-- the place behind the blanks that stand at i -/
def skB (T : List Int) (i : Nat) : Nat := i + ((T.drop i).takeWhile (fun c => decide (c = 32))).length
/-- letters, digits that stand at i -/
def wrd (T : List Int) (i : Nat) : List Int := (T.drop i).takeWhile isl
def dig (T : List Int) (i : Nat) : List Int := (T.drop i).takeWhile isd
theorem tat_lt {T : List Int} {i : Nat} (h : i < T.length) : T[i]? = some (tat T i) := by
  unfold tat
  rw [List.getD_eq_getElem?_getD, List.getElem?_eq_getElem h]; rfl
theorem tat_ge {T : List Int} {i : Nat} (h : T.length ≤ i) : tat T i = -1 := by
  unfold tat
  rw [List.getD_eq_getElem?_getD, List.getElem?_eq_none h]; rfl
theorem drop_at {T : List Int} {i : Nat} (h : i < T.length) : T.drop i = tat T i :: T.drop (i + 1) := by
  have h2 := tat_lt h
  rw [List.getElem?_eq_getElem h] at h2
  rw [List.drop_eq_getElem_cons h, Option.some.inj h2]
theorem skB_1 {T : List Int} {i : Nat} (h : tat T i = 32) : skB T i = skB T (i + 1) := by
  have hl : i < T.length := by
    rcases Nat.lt_or_ge i T.length with h1 | h1
    · exact h1
    · rw [tat_ge h1] at h; omega
  unfold skB
  rw [drop_at hl, List.takeWhile_cons, h]
  simp
  omega
theorem skB_0 {T : List Int} {i : Nat} (h : tat T i ≠ 32) : skB T i = i := by
  unfold skB
  rcases Nat.lt_or_ge i T.length with h1 | h1
  · rw [drop_at h1, List.takeWhile_cons]
    simp [h]
  · rw [List.drop_eq_nil_of_le h1]; rfl
theorem tw_le {α : Type} (f : α → Bool) : ∀ l : List α, (l.takeWhile f).length ≤ l.length := by
  intro l
  induction l with
  | nil => exact Nat.le_refl _
  | cons a l ih =>
    rw [List.takeWhile_cons]
    split
    · simp; exact ih
    · simp
theorem skB_le {T : List Int} {i : Nat} (h : i ≤ T.length) : i ≤ skB T i ∧ skB T i ≤ T.length := by
  unfold skB
  have := tw_le (fun c : Int => decide (c = 32)) (T.drop i)
  rw [List.length_drop] at this
  omega
theorem skB_nb (T : List Int) : ∀ (n i : Nat), T.length - i = n → tat T (skB T i) ≠ 32 := by
  intro n
  induction n with
  | zero =>
    intro i hi h
    have e : skB T i = i := skB_0 (by rw [tat_ge (by omega)]; decide)
    rw [e, tat_ge (by omega)] at h
    omega
  | succ n ih =>
    intro i hi h
    by_cases e : tat T i = 32
    · rw [skB_1 e] at h
      exact ih (i + 1) (by omega) h
    · rw [skB_0 e] at h
      exact e h
theorem skB_idem (T : List Int) (i : Nat) : skB T (skB T i) = skB T i := skB_0 (skB_nb T _ i rfl)
theorem wrd_1 {T : List Int} {i : Nat} (h : 97 ≤ tat T i ∧ tat T i ≤ 122) : wrd T i = tat T i :: wrd T (i + 1) := by
  have hl : i < T.length := by
    rcases Nat.lt_or_ge i T.length with h1 | h1
    · exact h1
    · rw [tat_ge h1] at h; omega
  unfold wrd
  rw [drop_at hl, List.takeWhile_cons]
  simp [isl, h]
theorem wrd_0 {T : List Int} {i : Nat} (h : ¬ (97 ≤ tat T i ∧ tat T i ≤ 122)) : wrd T i = [] := by
  unfold wrd
  rcases Nat.lt_or_ge i T.length with h1 | h1
  · rw [drop_at h1, List.takeWhile_cons]
    simp [isl, h]
  · rw [List.drop_eq_nil_of_le h1]; rfl
theorem dig_1 {T : List Int} {i : Nat} (h : 48 ≤ tat T i ∧ tat T i ≤ 57) : dig T i = tat T i :: dig T (i + 1) := by
  have hl : i < T.length := by
    rcases Nat.lt_or_ge i T.length with h1 | h1
    · exact h1
    · rw [tat_ge h1] at h; omega
  unfold dig
  rw [drop_at hl, List.takeWhile_cons]
  simp [isd, h]
theorem dig_0 {T : List Int} {i : Nat} (h : ¬ (48 ≤ tat T i ∧ tat T i ≤ 57)) : dig T i = [] := by
  unfold dig
  rcases Nat.lt_or_ge i T.length with h1 | h1
  · rw [drop_at h1, List.takeWhile_cons]
    simp [isd, h]
  · rw [List.drop_eq_nil_of_le h1]; rfl
theorem wrd_le {T : List Int} {i : Nat} (h : i ≤ T.length) : i + (wrd T i).length ≤ T.length := by
  unfold wrd
  have := tw_le isl (T.drop i)
  rw [List.length_drop] at this
  omega
theorem dig_le {T : List Int} {i : Nat} (h : i ≤ T.length) : i + (dig T i).length ≤ T.length := by
  unfold dig
  have := tw_le isd (T.drop i)
  rw [List.length_drop] at this
  omega
/-- a Tape: what was fed, the text's length and bytes, where it stands, word, number, fault -/
def TX (I : jx_I) (t : Nat) (T : List Int) (fd p wf we nf fk fa : Int) : Prop := ((I t 1).toInt = fd ∧ (I t 2).toInt = T.length ∧ (I t 3).toInt = p ∧ (I t 4).toInt = wf ∧ (I t 5).toInt = we ∧ (I t 6).toInt = nf ∧ (I t 7).toInt = fk ∧ (I t 8).toInt = fa) ∧ T.length ≤ 600 ∧ ∀ (k : Nat) (x : Int), T[k]? = some x → (I (t + 1) k).toInt = x
theorem TX_b {I : jx_I} {t : Nat} {T : List Int} {fd p wf we nf fk fa : Int} (h : TX I t T fd p wf we nf fk fa) {i : Nat} (hi : i < T.length) : (I (t + 1) i).toInt = tat T i := h.2.2 i _ (tat_lt hi)
theorem TX_3 {I : jx_I} {t : Nat} {T : List Int} {fd p wf we nf fk fa v : Int} (h : TX I t T fd p wf we nf fk fa) (hv : -2147483648 ≤ v ∧ v < 2147483648) : TX (jx_u I t 3 (Int32.ofInt v)) t T fd v wf we nf fk fa := by
  obtain ⟨⟨h1, h2, h3, h4, h5, h6, h7, h8⟩, h9, h10⟩ := h
  refine ⟨⟨?_, ?_, ?_, ?_, ?_, ?_, ?_, ?_⟩, h9, fun k x hk => ?_⟩
  · rw [jx_u_k _ _ _ _ (by decide)]; exact h1
  · rw [jx_u_k _ _ _ _ (by decide)]; exact h2
  · rw [jx_u_s]; exact jy_toInt hv
  · rw [jx_u_k _ _ _ _ (by decide)]; exact h4
  · rw [jx_u_k _ _ _ _ (by decide)]; exact h5
  · rw [jx_u_k _ _ _ _ (by decide)]; exact h6
  · rw [jx_u_k _ _ _ _ (by decide)]; exact h7
  · rw [jx_u_k _ _ _ _ (by decide)]; exact h8
  · rw [jx_u_a _ _ _ _ (by omega)]; exact h10 k x hk
theorem TX_4 {I : jx_I} {t : Nat} {T : List Int} {fd p wf we nf fk fa v : Int} (h : TX I t T fd p wf we nf fk fa) (hv : -2147483648 ≤ v ∧ v < 2147483648) : TX (jx_u I t 4 (Int32.ofInt v)) t T fd p v we nf fk fa := by
  obtain ⟨⟨h1, h2, h3, h4, h5, h6, h7, h8⟩, h9, h10⟩ := h
  refine ⟨⟨?_, ?_, ?_, ?_, ?_, ?_, ?_, ?_⟩, h9, fun k x hk => ?_⟩
  · rw [jx_u_k _ _ _ _ (by decide)]; exact h1
  · rw [jx_u_k _ _ _ _ (by decide)]; exact h2
  · rw [jx_u_k _ _ _ _ (by decide)]; exact h3
  · rw [jx_u_s]; exact jy_toInt hv
  · rw [jx_u_k _ _ _ _ (by decide)]; exact h5
  · rw [jx_u_k _ _ _ _ (by decide)]; exact h6
  · rw [jx_u_k _ _ _ _ (by decide)]; exact h7
  · rw [jx_u_k _ _ _ _ (by decide)]; exact h8
  · rw [jx_u_a _ _ _ _ (by omega)]; exact h10 k x hk
theorem TX_5 {I : jx_I} {t : Nat} {T : List Int} {fd p wf we nf fk fa v : Int} (h : TX I t T fd p wf we nf fk fa) (hv : -2147483648 ≤ v ∧ v < 2147483648) : TX (jx_u I t 5 (Int32.ofInt v)) t T fd p wf v nf fk fa := by
  obtain ⟨⟨h1, h2, h3, h4, h5, h6, h7, h8⟩, h9, h10⟩ := h
  refine ⟨⟨?_, ?_, ?_, ?_, ?_, ?_, ?_, ?_⟩, h9, fun k x hk => ?_⟩
  · rw [jx_u_k _ _ _ _ (by decide)]; exact h1
  · rw [jx_u_k _ _ _ _ (by decide)]; exact h2
  · rw [jx_u_k _ _ _ _ (by decide)]; exact h3
  · rw [jx_u_k _ _ _ _ (by decide)]; exact h4
  · rw [jx_u_s]; exact jy_toInt hv
  · rw [jx_u_k _ _ _ _ (by decide)]; exact h6
  · rw [jx_u_k _ _ _ _ (by decide)]; exact h7
  · rw [jx_u_k _ _ _ _ (by decide)]; exact h8
  · rw [jx_u_a _ _ _ _ (by omega)]; exact h10 k x hk
theorem TX_6 {I : jx_I} {t : Nat} {T : List Int} {fd p wf we nf fk fa v : Int} (h : TX I t T fd p wf we nf fk fa) (hv : -2147483648 ≤ v ∧ v < 2147483648) : TX (jx_u I t 6 (Int32.ofInt v)) t T fd p wf we v fk fa := by
  obtain ⟨⟨h1, h2, h3, h4, h5, h6, h7, h8⟩, h9, h10⟩ := h
  refine ⟨⟨?_, ?_, ?_, ?_, ?_, ?_, ?_, ?_⟩, h9, fun k x hk => ?_⟩
  · rw [jx_u_k _ _ _ _ (by decide)]; exact h1
  · rw [jx_u_k _ _ _ _ (by decide)]; exact h2
  · rw [jx_u_k _ _ _ _ (by decide)]; exact h3
  · rw [jx_u_k _ _ _ _ (by decide)]; exact h4
  · rw [jx_u_k _ _ _ _ (by decide)]; exact h5
  · rw [jx_u_s]; exact jy_toInt hv
  · rw [jx_u_k _ _ _ _ (by decide)]; exact h7
  · rw [jx_u_k _ _ _ _ (by decide)]; exact h8
  · rw [jx_u_a _ _ _ _ (by omega)]; exact h10 k x hk
theorem TX_78 {I : jx_I} {t : Nat} {T : List Int} {fd p wf we nf fk fa v w : Int} (h : TX I t T fd p wf we nf fk fa) (hv : -2147483648 ≤ v ∧ v < 2147483648) (hw : -2147483648 ≤ w ∧ w < 2147483648) : TX (jx_u (jx_u I t 7 (Int32.ofInt v)) t 8 (Int32.ofInt w)) t T fd p wf we nf v w := by
  obtain ⟨⟨h1, h2, h3, h4, h5, h6, h7, h8⟩, h9, h10⟩ := h
  refine ⟨⟨?_, ?_, ?_, ?_, ?_, ?_, ?_, ?_⟩, h9, fun k x hk => ?_⟩
  · rw [jx_u_k _ _ _ _ (by decide), jx_u_k _ _ _ _ (by decide)]; exact h1
  · rw [jx_u_k _ _ _ _ (by decide), jx_u_k _ _ _ _ (by decide)]; exact h2
  · rw [jx_u_k _ _ _ _ (by decide), jx_u_k _ _ _ _ (by decide)]; exact h3
  · rw [jx_u_k _ _ _ _ (by decide), jx_u_k _ _ _ _ (by decide)]; exact h4
  · rw [jx_u_k _ _ _ _ (by decide), jx_u_k _ _ _ _ (by decide)]; exact h5
  · rw [jx_u_k _ _ _ _ (by decide), jx_u_k _ _ _ _ (by decide)]; exact h6
  · rw [jx_u_k _ _ _ _ (by decide), jx_u_s]; exact jy_toInt hv
  · rw [jx_u_s]; exact jy_toInt hw
  · rw [jx_u_a _ _ _ _ (by omega), jx_u_a _ _ _ _ (by omega)]; exact h10 k x hk
theorem TX_of {I I' : jx_I} {t : Nat} {T : List Int} {fd p wf we nf fk fa : Int} (h : TX I t T fd p wf we nf fk fa) (e : I' t = I t) (e1 : I' (t + 1) = I (t + 1)) : TX I' t T fd p wf we nf fk fa := by
  unfold TX
  rw [e, e1]
  exact h
theorem jz_sbl : ∀ i, i < 34 → (jx_sb i).length ≤ 60 ∧ ∀ b ∈ jx_sb i, 0 ≤ b.toInt ∧ b.toInt < 128 := by decide +kernel
def jz_ch (v : Int) : Int := ((Int32.ofInt ((Int32.ofInt v &&& Int32.ofInt 255).toInt)).toUInt32 % 65536).toInt32.toInt
theorem jz_ch_ok : ∀ n : Nat, n < 128 → jz_ch (n : Int) = (n : Int) := by decide +kernel
def sbi (s : Nat) : List Int := (jx_sb s).map (fun b => b.toInt)
/-- java/lang/String.coder -/
theorem cz_332 {V : jx_V} (hV : V.1.stackTraces = false) {X : jx_X} {R : jx_R} {I : jx_I} {a0 : Nat} 
    (h_a0 : a0 < 34)
    {QE : String → jx_I → Prop} : jc V 1 332 (0, 0) [.ref (V.2.2.2.1 a0)] X I R (fun rv I' => rv = some (jy 0) ∧ I' = I) QE := by
  refine wm_332 hV  h_a0 ?_
  unfold wz_332
  refine ⟨fun hq1 => ?_, fun hq1 => ?_⟩
  · omega
  · exact ⟨rfl, rfl⟩
/-- java/lang/String.isLatin1 -/
theorem cz_333 {V : jx_V} (hV : V.1.stackTraces = false) {X : jx_X} {R : jx_R} {I : jx_I} {a0 : Nat} 
    (h_a0 : a0 < 34)
    {QE : String → jx_I → Prop} : jc V 1 333 (0, 0) [.ref (V.2.2.2.1 a0)] X I R (fun rv I' => rv = some (jy 1) ∧ I' = I) QE := by
  refine wm_333 hV  h_a0 ?_
  unfold wz_333
  refine ⟨fun hq1 => ?_, fun hq1 => ?_⟩
  · omega
  · refine ⟨fun hq2 => ?_, fun hq2 => ?_⟩
    · omega
    · exact ⟨rfl, rfl⟩
/-- java/lang/String.length -/
theorem cz_330 {V : jx_V} (hV : V.1.stackTraces = false) {X : jx_X} {R : jx_R} {I : jx_I} {a0 : Nat} 
    (h_a0 : a0 < 34)
    {QE : String → jx_I → Prop} : jc V 2 330 (0, 0) [.ref (V.2.2.2.1 a0)] X I R (fun rv I' => rv = some (jy ((jx_sb a0).length : Int)) ∧ I' = I) QE := by
  refine wm_330 hV  h_a0 ?_
  unfold wz_330
  refine ⟨_, cz_332 hV h_a0, ?_⟩
  rintro _ I3 ⟨rfl, e9⟩; replace e9 := e9.symm; subst e9
  refine ⟨_, rfl, ?_⟩
  refine ⟨?_, rfl⟩
  have h := (jz_sbl a0 h_a0).1
  have e := jz_sh (B := (jx_sb a0).length) (k := 0) (by omega) (by omega)
  rw [show ((0 : Nat) : Int) = 0 from rfl] at e
  rw [e, Nat.pow_zero, Nat.div_one, nI_toInt (by omega)]
/-- jdk/internal/util/Preconditions.checkIndex -/
theorem cz_336 {V : jx_V} (hV : V.1.stackTraces = false) {X : jx_X} {R : jx_R} {I : jx_I} {a0 : Int} {a1 : Int} {a2 : Option Nat} 
    (h1 : 0 ≤ a0 ∧ a0 < a1) (r_a1 : -2147483648 ≤ a1 ∧ a1 < 2147483648)
    {QE : String → jx_I → Prop} : jc V 1 336 (0, 0) [jy a0, jy a1, va_rf a2] X I R (fun rv I' => rv = some (jy a0) ∧ I' = I) QE := by
  refine wm_336 hV (by omega) (by omega)  ?_
  unfold wz_336
  refine ⟨fun hq1 => ?_, fun hq1 => ?_⟩
  · omega
  · refine ⟨fun hq2 => ?_, fun hq2 => ?_⟩
    · exact ⟨rfl, rfl⟩
    · omega
/-- java/lang/String.checkIndex -/
theorem cz_334 {V : jx_V} (hV : V.1.stackTraces = false) {X : jx_X} {R : jx_R} {I : jx_I} {a0 : Int} {a1 : Int} 
    (h1 : 0 ≤ a0 ∧ a0 < a1) (r_a1 : -2147483648 ≤ a1 ∧ a1 < 2147483648)
    {QE : String → jx_I → Prop} : jc V 2 334 (0, 0) [jy a0, jy a1] X I R (fun rv I' => rv = none ∧ I' = I) QE := by
  refine wm_334 hV (by omega) (by omega)  ?_
  unfold wz_334
  intro qs
  refine ⟨_, cz_336 hV h1 r_a1, ?_⟩
  rintro _ I3 ⟨rfl, e9⟩; replace e9 := e9.symm; subst e9
  refine ⟨_, rfl, ?_⟩
  exact ⟨rfl, rfl⟩
/-- java/lang/StringLatin1.charAt -/
theorem cz_335 {V : jx_V} (hV : V.1.stackTraces = false) {X : jx_X} {R : jx_R} {I : jx_I} {a0 : Nat} {a1 : Int} {i : Nat}
    (h_a0 : a0 < 34) (h1 : a1 = (i : Int)) (hi : i < (jx_sb a0).length)
    {QE : String → jx_I → Prop} : jc V 3 335 (0, 0) [.ref (V.2.2.2.2.1 a0), jy a1] X I R (fun rv I' => rv = some (jy ((jx_sb a0).getD i 0).toInt) ∧ I' = I) QE := by
  have hsl := jz_sbl a0 h_a0
  refine wm_335 hV (by omega) h_a0 ?_
  have hm : (jx_sb a0).getD i 0 ∈ jx_sb a0 := by rw [List.getD_eq_getElem?_getD, List.getElem?_eq_getElem hi]; exact List.getElem_mem _
  have hb := hsl.2 _ hm
  have e := jz_ch_ok ((jx_sb a0).getD i 0).toInt.toNat (by omega)
  rw [show (((jx_sb a0).getD i 0).toInt.toNat : Int) = ((jx_sb a0).getD i 0).toInt by omega] at e
  unfold jz_ch at e
  have hii : a1.toNat = i := by omega
  unfold wz_335
  refine ⟨_, cz_334 hV (by omega) (by omega), ?_⟩
  rintro _ I3 ⟨rfl, e9⟩; replace e9 := e9.symm; subst e9
  refine ⟨rfl, ?_⟩
  simp only [-eq_self, hii, e]
  refine ⟨by omega, by omega, by omega, ?_⟩
  exact ⟨by trivial, by trivial⟩
/-- java/lang/String.charAt -/
theorem cz_331 {V : jx_V} (hV : V.1.stackTraces = false) {X : jx_X} {R : jx_R} {I : jx_I} {a0 : Nat} {a1 : Int} {i : Nat}
    (h_a0 : a0 < 34) (h1 : a1 = (i : Int)) (hi : i < (jx_sb a0).length)
    {QE : String → jx_I → Prop} : jc V 4 331 (0, 0) [.ref (V.2.2.2.1 a0), jy a1] X I R (fun rv I' => rv = some (jy ((jx_sb a0).getD i 0).toInt) ∧ I' = I) QE := by
  have hsl := jz_sbl a0 h_a0
  refine wm_331 hV (by omega) h_a0 ?_
  have hm : (jx_sb a0).getD i 0 ∈ jx_sb a0 := by rw [List.getD_eq_getElem?_getD, List.getElem?_eq_getElem hi]; exact List.getElem_mem _
  have hb := hsl.2 _ hm
  unfold wz_331
  refine ⟨_, cz_333 hV h_a0, ?_⟩
  rintro _ I3 ⟨rfl, e9⟩; replace e9 := e9.symm; subst e9
  refine ⟨_, rfl, ?_⟩
  refine ⟨by omega, ?_⟩
  refine ⟨fun hq1 => ?_, fun hq1 => ?_⟩
  · omega
  · refine ⟨_, cz_335 hV h_a0 h1 hi, ?_⟩
    rintro _ I8 ⟨rfl, e9⟩; replace e9 := e9.symm; subst e9
    refine ⟨_, rfl, ?_⟩
    refine ⟨by omega, ?_⟩
    exact ⟨rfl, rfl⟩
/-- GrievingCamels$Tape.skipBlanks -/
theorem cz_119 {V : jx_V} (hV : V.1.stackTraces = false) {X : jx_X} {R : jx_R} {I : jx_I} {a0 : Nat} {T : List Int} {fd wf we nf fk fa : Int} {p : Nat}
    (ht : BX X R a0 TTape) (hT : TX I a0 T fd (p : Int) wf we nf fk fa) (hp : p ≤ T.length)
    {QE : String → jx_I → Prop} : jc V 1 119 (0, 0) [.ref a0] X I R (fun rv I' => rv = none ∧ TX I' a0 T fd (skB T p : Nat) wf we nf fk fa ∧ FR a0 (a0 + 1) I I') QE := by
  refine wm_119 hV   (fun J0 hJJ => ?_)
  have hJ0 := hJJ
  have hn := hT.2.1
  unfold wz_119
  have L0 : ∀ (n0 : Nat)  (K : jx_I), n0 = ((K a0 2).toInt - (K a0 3).toInt).toNat → (∃ i : Nat, i ≤ T.length ∧ skB T i = skB T p ∧ TX K a0 T fd (i : Int) wf we nf fk fa ∧ FR a0 (a0 + 1) I K) → J0  K := by
    intro n0
    induction n0 using Nat.strongRecOn with
    | ind n0 ih0 =>
    intro  K hn0 hI0
    obtain ⟨i, hi, hs, hK, hF⟩ := hI0
    have h2 := hK.1.2.1; have h3 := hK.1.2.2.1
    refine hJ0 _ ?_
    unfold wz_119_0
    refine ⟨s_Tape_0 ht, ?_⟩
    refine ⟨fun hq1 => ?_, fun hq1 => ?_⟩
    · have e : skB T i = i := skB_0 (by rw [tat_ge (by omega)]; decide)
      exact ⟨rfl, by rw [← hs, e]; exact hK, hF⟩
    · have hb := TX_b hK (i := i) (by omega)
      refine ⟨_, r_Tape_0_0 ht, _, ⟨s_Tape_1 ht, by decide⟩, ?_⟩
      try simp only [-eq_self, h3, Int.toNat_natCast, hb]
      refine ⟨by omega, ?_⟩
      refine ⟨fun hq2 => ?_, fun hq2 => ?_⟩
      · have e : skB T i = i := skB_0 hq2
        exact ⟨rfl, by rw [← hs, e]; exact hK, hF⟩
      · intro I7 e_I7; subst e_I7
        have hK2 := TX_3 (v := (i : Int) + 1) hK (by omega)
        have h22 := hK2.1.2.1; have h32 := hK2.1.2.2.1
        exact ih0 _ (by omega) _ rfl (⟨i + 1, by omega, by rw [← hs]; exact (skB_1 hq2).symm, hK2, FR_u hF (by omega) (by omega)⟩)
  exact L0 _ _ rfl (⟨p, hp, rfl, hT, FR_refl⟩)
/-- GrievingCamels$Tape.close -/
theorem cz_105 {V : jx_V} (hV : V.1.stackTraces = false) {X : jx_X} {R : jx_R} {I : jx_I} {a0 : Nat} 
    (ht : BX X R a0 TTape)
    {QE : String → jx_I → Prop} : jc V 1 105 (0, 0) [.ref a0] X I R (fun rv I' => rv = none ∧ I' = jx_u I a0 1 (Int32.ofInt 0)) QE := by
  refine wm_105 hV   ?_
  unfold wz_105
  refine ⟨s_Tape_0 ht, ?_⟩
  intro I2 e_I2; subst e_I2
  exact ⟨rfl, rfl⟩
/-- GrievingCamels$Tape.fail -/
theorem cz_106 {V : jx_V} (hV : V.1.stackTraces = false) {X : jx_X} {R : jx_R} {I : jx_I} {a0 : Nat} {a1 : Int} {a2 : Int} {T : List Int} {fd p wf we nf fk fa : Int}
    (ht : BX X R a0 TTape) (hT : TX I a0 T fd p wf we nf fk fa) (r_a1 : -2147483648 ≤ a1 ∧ a1 < 2147483648) (r_a2 : -2147483648 ≤ a2 ∧ a2 < 2147483648)
    {QE : String → jx_I → Prop} : jc V 1 106 (0, 0) [.ref a0, jy a1, jy a2] X I R (fun rv I' => rv = some (jy 0) ∧ TX I' a0 T fd p wf we nf a1 a2 ∧ FR a0 (a0 + 1) I I') QE := by
  refine wm_106 hV (by omega) (by omega)  ?_
  unfold wz_106
  refine ⟨s_Tape_0 ht, ?_⟩
  intro I2 e_I2; subst e_I2
  intro I3 e_I3; subst e_I3
  exact ⟨rfl, TX_78 hT r_a1 r_a2, FR_u (FR_u FR_refl (by omega) (by omega)) (by omega) (by omega)⟩
/-- GrievingCamels$Tape.failHere -/
theorem cz_107 {V : jx_V} (hV : V.1.stackTraces = false) {X : jx_X} {R : jx_R} {I : jx_I} {a0 : Nat} {a1 : Int} {T : List Int} {fd p wf we nf fk fa : Int}
    (ht : BX X R a0 TTape) (hT : TX I a0 T fd p wf we nf fk fa) (r_a1 : -2147483648 ≤ a1 ∧ a1 < 2147483648)
    {QE : String → jx_I → Prop} : jc V 2 107 (0, 0) [.ref a0, jy a1] X I R (fun rv I' => rv = some (jy 0) ∧ TX I' a0 T fd p wf we nf a1 p ∧ FR a0 (a0 + 1) I I') QE := by
  refine wm_107 hV (by omega)  ?_
  have hf := hT.1.2.2.1
  have hfr := jy_rng (I a0 3)
  rw [hf] at hfr
  unfold wz_107
  refine ⟨s_Tape_0 ht, ?_⟩
  refine ⟨_, cz_106 hV ht hT r_a1 (by rw [hf]; exact hfr), ?_⟩
  rintro _ I4 ⟨rfl, h2, hF⟩
  refine ⟨_, rfl, ?_⟩
  refine ⟨Or.inl rfl, ?_⟩
  exact ⟨rfl, by rw [hf] at h2; exact h2, hF⟩
/-- GrievingCamels$Tape.failAtWord -/
theorem cz_108 {V : jx_V} (hV : V.1.stackTraces = false) {X : jx_X} {R : jx_R} {I : jx_I} {a0 : Nat} {a1 : Int} {T : List Int} {fd p wf we nf fk fa : Int}
    (ht : BX X R a0 TTape) (hT : TX I a0 T fd p wf we nf fk fa) (r_a1 : -2147483648 ≤ a1 ∧ a1 < 2147483648)
    {QE : String → jx_I → Prop} : jc V 2 108 (0, 0) [.ref a0, jy a1] X I R (fun rv I' => rv = some (jy 0) ∧ TX I' a0 T fd p wf we nf a1 wf ∧ FR a0 (a0 + 1) I I') QE := by
  refine wm_108 hV (by omega)  ?_
  have hf := hT.1.2.2.2.1
  have hfr := jy_rng (I a0 4)
  rw [hf] at hfr
  unfold wz_108
  refine ⟨s_Tape_0 ht, ?_⟩
  refine ⟨_, cz_106 hV ht hT r_a1 (by rw [hf]; exact hfr), ?_⟩
  rintro _ I4 ⟨rfl, h2, hF⟩
  refine ⟨_, rfl, ?_⟩
  refine ⟨Or.inl rfl, ?_⟩
  exact ⟨rfl, by rw [hf] at h2; exact h2, hF⟩
/-- GrievingCamels$Tape.failAtNumber -/
theorem cz_109 {V : jx_V} (hV : V.1.stackTraces = false) {X : jx_X} {R : jx_R} {I : jx_I} {a0 : Nat} {a1 : Int} {T : List Int} {fd p wf we nf fk fa : Int}
    (ht : BX X R a0 TTape) (hT : TX I a0 T fd p wf we nf fk fa) (r_a1 : -2147483648 ≤ a1 ∧ a1 < 2147483648)
    {QE : String → jx_I → Prop} : jc V 2 109 (0, 0) [.ref a0, jy a1] X I R (fun rv I' => rv = some (jy 0) ∧ TX I' a0 T fd p wf we nf a1 nf ∧ FR a0 (a0 + 1) I I') QE := by
  refine wm_109 hV (by omega)  ?_
  have hf := hT.1.2.2.2.2.2.1
  have hfr := jy_rng (I a0 6)
  rw [hf] at hfr
  unfold wz_109
  refine ⟨s_Tape_0 ht, ?_⟩
  refine ⟨_, cz_106 hV ht hT r_a1 (by rw [hf]; exact hfr), ?_⟩
  rintro _ I4 ⟨rfl, h2, hF⟩
  refine ⟨_, rfl, ?_⟩
  refine ⟨Or.inl rfl, ?_⟩
  exact ⟨rfl, by rw [hf] at h2; exact h2, hF⟩
/-- GrievingCamels$Tape.hasEnded -/
theorem cz_110 {V : jx_V} (hV : V.1.stackTraces = false) {X : jx_X} {R : jx_R} {I : jx_I} {a0 : Nat} {T : List Int} {fd wf we nf fk fa : Int} {p : Nat}
    (ht : BX X R a0 TTape) (hT : TX I a0 T fd (p : Int) wf we nf fk fa) (hp : p ≤ T.length)
    {QE : String → jx_I → Prop} : jc V 1 110 (0, 0) [.ref a0] X I R (fun rv I' => rv = some (jy (if p < T.length then 0 else 1)) ∧ I' = I) QE := by
  refine wm_110 hV   ?_
  have h2 := hT.1.2.1; have h3 := hT.1.2.2.1
  unfold wz_110
  refine ⟨s_Tape_0 ht, ?_⟩
  refine ⟨fun hq1 => ?_, fun hq1 => ?_⟩
  · exact ⟨by rw [if_pos (by omega)], rfl⟩
  · exact ⟨by rw [if_neg (by omega)], rfl⟩
/-- GrievingCamels$Tape.isSign -/
theorem cz_111 {V : jx_V} (hV : V.1.stackTraces = false) {X : jx_X} {R : jx_R} {I : jx_I} {a0 : Nat} {a1 : Int} {T : List Int} {fd wf we nf fk fa : Int} {p : Nat}
    (ht : BX X R a0 TTape) (hT : TX I a0 T fd (p : Int) wf we nf fk fa) (hp : p ≤ T.length) (hc : 0 ≤ a1 ∧ a1 < 2147483648)
    {QE : String → jx_I → Prop} : jc V 1 111 (0, 0) [.ref a0, jy a1] X I R (fun rv I' => rv = some (jy (if tat T p = a1 then 1 else 0)) ∧ I' = I) QE := by
  refine wm_111 hV (by omega)  ?_
  have h2 := hT.1.2.1; have h3 := hT.1.2.2.1; have hn := hT.2.1
  unfold wz_111
  refine ⟨s_Tape_0 ht, ?_⟩
  refine ⟨fun hq1 => ?_, fun hq1 => ?_⟩
  · exact ⟨by rw [if_neg (by rw [tat_ge (by omega)]; omega)], rfl⟩
  · have hb := TX_b hT (i := p) (by omega)
    refine ⟨_, r_Tape_0_0 ht, _, ⟨s_Tape_1 ht, by decide⟩, ?_⟩
    try simp only [-eq_self, h3, Int.toNat_natCast, hb]
    refine ⟨by omega, ?_⟩
    refine ⟨fun hq2 => ?_, fun hq2 => ?_⟩
    · exact ⟨by rw [if_neg hq2], rfl⟩
    · exact ⟨by rw [if_pos hq2], rfl⟩
/-- GrievingCamels$Tape.startsNumber -/
theorem cz_114 {V : jx_V} (hV : V.1.stackTraces = false) {X : jx_X} {R : jx_R} {I : jx_I} {a0 : Nat} {T : List Int} {fd wf we nf fk fa : Int} {p : Nat}
    (ht : BX X R a0 TTape) (hT : TX I a0 T fd (p : Int) wf we nf fk fa) (hp : p ≤ T.length)
    {QE : String → jx_I → Prop} : jc V 1 114 (0, 0) [.ref a0] X I R (fun rv I' => rv = some (jy (if 48 ≤ tat T p ∧ tat T p ≤ 57 then 1 else 0)) ∧ I' = I) QE := by
  refine wm_114 hV   ?_
  have h2 := hT.1.2.1; have h3 := hT.1.2.2.1; have hn := hT.2.1
  unfold wz_114
  refine ⟨s_Tape_0 ht, ?_⟩
  refine ⟨fun hq1 => ?_, fun hq1 => ?_⟩
  · exact ⟨by rw [if_neg (by rw [tat_ge (by omega)]; omega)], rfl⟩
  · have hb := TX_b hT (i := p) (by omega)
    have hbr := jy_rng (I (a0 + 1) p)
    rw [hb] at hbr
    refine ⟨_, r_Tape_0_0 ht, _, ⟨s_Tape_1 ht, by decide⟩, ?_⟩
    try simp only [-eq_self, h3, Int.toNat_natCast, hb]
    refine ⟨by omega, ?_⟩
    refine ⟨fun hq2 => ?_, fun hq2 => ?_⟩
    · exact ⟨by rw [if_neg (by omega)], rfl⟩
    · refine ⟨by omega, ?_⟩
      refine ⟨fun hq3 => ?_, fun hq3 => ?_⟩
      · exact ⟨by rw [if_neg (by omega)], rfl⟩
      · exact ⟨by rw [if_pos (by omega)], rfl⟩
/-- GrievingCamels$Tape.startsWord -/
theorem cz_115 {V : jx_V} (hV : V.1.stackTraces = false) {X : jx_X} {R : jx_R} {I : jx_I} {a0 : Nat} {T : List Int} {fd wf we nf fk fa : Int} {p : Nat}
    (ht : BX X R a0 TTape) (hT : TX I a0 T fd (p : Int) wf we nf fk fa) (hp : p ≤ T.length)
    {QE : String → jx_I → Prop} : jc V 1 115 (0, 0) [.ref a0] X I R (fun rv I' => rv = some (jy (if 97 ≤ tat T p ∧ tat T p ≤ 122 then 1 else 0)) ∧ I' = I) QE := by
  refine wm_115 hV   ?_
  have h2 := hT.1.2.1; have h3 := hT.1.2.2.1; have hn := hT.2.1
  unfold wz_115
  refine ⟨s_Tape_0 ht, ?_⟩
  refine ⟨fun hq1 => ?_, fun hq1 => ?_⟩
  · exact ⟨by rw [if_neg (by rw [tat_ge (by omega)]; omega)], rfl⟩
  · have hb := TX_b hT (i := p) (by omega)
    have hbr := jy_rng (I (a0 + 1) p)
    rw [hb] at hbr
    refine ⟨_, r_Tape_0_0 ht, _, ⟨s_Tape_1 ht, by decide⟩, ?_⟩
    try simp only [-eq_self, h3, Int.toNat_natCast, hb]
    refine ⟨by omega, ?_⟩
    refine ⟨fun hq2 => ?_, fun hq2 => ?_⟩
    · exact ⟨by rw [if_neg (by omega)], rfl⟩
    · refine ⟨by omega, ?_⟩
      refine ⟨fun hq3 => ?_, fun hq3 => ?_⟩
      · exact ⟨by rw [if_neg (by omega)], rfl⟩
      · exact ⟨by rw [if_pos (by omega)], rfl⟩
/-- GrievingCamels$Tape.takesSign -/
theorem cz_112 {V : jx_V} (hV : V.1.stackTraces = false) {X : jx_X} {R : jx_R} {I : jx_I} {a0 : Nat} {a1 : Int} {T : List Int} {fd wf we nf fk fa : Int} {p : Nat}
    (ht : BX X R a0 TTape) (hT : TX I a0 T fd (p : Int) wf we nf fk fa) (hp : p ≤ T.length) (hc : 0 ≤ a1 ∧ a1 < 2147483648)
    {QE : String → jx_I → Prop} : jc V 2 112 (0, 0) [.ref a0, jy a1] X I R (fun rv I' => (∃ r : Int, rv = some (jy r) ∧ ((r = 1 ∧ tat T p = a1 ∧ TX I' a0 T fd (skB T (p + 1) : Nat) wf we nf fk fa) ∨ (r = 0 ∧ tat T p ≠ a1 ∧ I' = I))) ∧ FR a0 (a0 + 1) I I') QE := by
  refine wm_112 hV (by omega)  ?_
  have h2 := hT.1.2.1; have h3 := hT.1.2.2.1; have hn := hT.2.1
  unfold wz_112
  refine ⟨s_Tape_0 ht, ?_⟩
  refine ⟨fun hq1 => ?_, fun hq1 => ?_⟩
  · exact ⟨⟨_, rfl, Or.inr ⟨rfl, by rw [tat_ge (by omega)]; omega, rfl⟩⟩, FR_refl⟩
  · have hb := TX_b hT (i := p) (by omega)
    refine ⟨_, r_Tape_0_0 ht, _, ⟨s_Tape_1 ht, by decide⟩, ?_⟩
    try simp only [-eq_self, h3, Int.toNat_natCast, hb]
    refine ⟨by omega, ?_⟩
    refine ⟨fun hq2 => ?_, fun hq2 => ?_⟩
    · intro I7 e_I7; subst e_I7
      refine ⟨_, cz_119 (p := p + 1) hV ht (TX_3 (v := (p : Int) + 1) hT (by omega)) (by omega), ?_⟩
      rintro _ I10 ⟨rfl, h5, hF⟩
      refine ⟨rfl, ?_⟩
      exact ⟨⟨_, rfl, Or.inl ⟨rfl, hq2, h5⟩⟩, FR_trans (FR_u FR_refl (by omega) (by omega)) hF⟩
    · exact ⟨⟨_, rfl, Or.inr ⟨rfl, hq2, rfl⟩⟩, FR_refl⟩
/-- GrievingCamels$Tape.needsSign -/
theorem cz_113 {V : jx_V} (hV : V.1.stackTraces = false) {X : jx_X} {R : jx_R} {I : jx_I} {a0 : Nat} {a1 : Int} {T : List Int} {fd wf we nf fk fa : Int} {p : Nat}
    (ht : BX X R a0 TTape) (hT : TX I a0 T fd (p : Int) wf we nf fk fa) (hp : p ≤ T.length) (hc : 0 ≤ a1 ∧ a1 < 2147483648)
    {QE : String → jx_I → Prop} : jc V 3 113 (0, 0) [.ref a0, jy a1] X I R (fun rv I' => (∃ r : Int, rv = some (jy r) ∧ ((r = 1 ∧ tat T p = a1 ∧ TX I' a0 T fd (skB T (p + 1) : Nat) wf we nf fk fa) ∨ (r = 0 ∧ tat T p ≠ a1 ∧ TX I' a0 T fd p wf we nf 1 p))) ∧ FR a0 (a0 + 1) I I') QE := by
  refine wm_113 hV (by omega)  ?_
  have h2 := hT.1.2.1; have h3 := hT.1.2.2.1; have hn := hT.2.1
  unfold wz_113
  refine ⟨s_Tape_0 ht, ?_⟩
  refine ⟨_, cz_112 hV ht hT hp hc, ?_⟩
  rintro _ I4 ⟨⟨r, rfl, hr⟩, hF⟩
  refine ⟨_, rfl, ?_⟩
  refine ⟨by omega, ?_⟩
  refine ⟨fun hq1 => ?_, fun hq1 => ?_⟩
  · rcases hr with h | h
    · exact ⟨⟨_, rfl, Or.inl ⟨rfl, h.2⟩⟩, hF⟩
    · omega
  · have hT9 : TX I4 a0 T fd p wf we nf fk fa := by
      rcases hr with h | h
      · omega
      · rw [h.2.2]; exact hT
    have h39 := hT9.1.2.2.1
    refine ⟨_, cz_106 hV ht hT9 (by omega) (by rw [h39]; omega), ?_⟩
    rintro _ I9 ⟨rfl, h5, hF2⟩
    refine ⟨_, rfl, ?_⟩
    refine ⟨by omega, ?_⟩
    refine ⟨fun hq2 => ?_, fun hq2 => ?_⟩
    · rcases hr with h | h
      · omega
      · rw [h39] at h5
        exact ⟨⟨_, rfl, Or.inr ⟨rfl, h.2.1, h5⟩⟩, FR_trans hF hF2⟩
    · omega
/-- GrievingCamels$Tape.open -/
theorem cz_104 {V : jx_V} (hV : V.1.stackTraces = false) {X : jx_X} {R : jx_R} {I : jx_I} {a0 : Nat} {a1 : Int} {T : List Int} {fd : Int}
    (ht : BX X R a0 TTape) (hf : (I a0 1).toInt = fd) (hn : (T.length : Int) = a1) (hf2 : a1 ≤ fd) (h600 : T.length ≤ 600) (hb : ∀ (k : Nat) (x : Int), T[k]? = some x → (I (a0 + 1) k).toInt = x)
    {QE : String → jx_I → Prop} : jc V 2 104 (0, 0) [.ref a0, jy a1] X I R (fun rv I' => rv = none ∧ TX I' a0 T fd (skB T 0 : Nat) (I a0 4).toInt (I a0 5).toInt (I a0 6).toInt 0 (-1) ∧ FR a0 (a0 + 1) I I') QE := by
  refine wm_104 hV (by omega)  ?_
  have hfr := jy_rng (I a0 1)
  rw [hf] at hfr
  unfold wz_104
  refine ⟨s_Tape_0 ht, ?_⟩
  refine ⟨_, cz_329 hV (by omega) (by omega), ?_⟩
  rintro _ I4 ⟨rfl, e9⟩; replace e9 := e9.symm; subst e9
  refine ⟨_, rfl, ?_⟩
  refine ⟨_, cz_328 hV (by omega) (by omega), ?_⟩
  rintro _ I8 ⟨rfl, e9⟩; replace e9 := e9.symm; subst e9
  refine ⟨_, rfl, ?_⟩
  intro I10 e_I10; subst e_I10
  intro I11 e_I11; subst e_I11
  intro I12 e_I12; subst e_I12
  intro I13 e_I13; subst e_I13
  refine ⟨_, cz_119 (p := 0) (T := T) (fd := fd) (wf := (I a0 4).toInt) (we := (I a0 5).toInt) (nf := (I a0 6).toInt) (fk := 0) (fa := -1) hV ht ⟨⟨by simp [jx_u, hf], by simp [jx_u, hf, -Int32.toInt_ofInt]; rw [jy_toInt (by omega)]; omega, by simp [jx_u], by simp [jx_u], by simp [jx_u], by simp [jx_u], by simp [jx_u], by simp [jx_u]⟩, h600, fun k x hk => by rw [jx_u_a _ _ _ _ (by omega), jx_u_a _ _ _ _ (by omega), jx_u_a _ _ _ _ (by omega), jx_u_a _ _ _ _ (by omega)]; exact hb k x hk⟩ (by omega), ?_⟩
  rintro _ I16 ⟨rfl, h5, hF⟩
  refine ⟨rfl, ?_⟩
  exact ⟨rfl, h5, FR_trans (FR_u (FR_u (FR_u (FR_u FR_refl (by omega) (by omega)) (by omega) (by omega)) (by omega) (by omega)) (by omega) (by omega)) hF⟩
/-- GrievingCamels$Tape.readWord -/
theorem cz_116 {V : jx_V} (hV : V.1.stackTraces = false) {X : jx_X} {R : jx_R} {I : jx_I} {a0 : Nat} {T : List Int} {fd wf we nf fk fa : Int} {p : Nat}
    (ht : BX X R a0 TTape) (hT : TX I a0 T fd (p : Int) wf we nf fk fa) (hp : p ≤ T.length)
    {QE : String → jx_I → Prop} : jc V 2 116 (0, 0) [.ref a0] X I R (fun rv I' => rv = none ∧ TX I' a0 T fd (skB T (p + (wrd T p).length) : Nat) p (p + (wrd T p).length : Nat) nf fk fa ∧ FR a0 (a0 + 1) I I') QE := by
  refine wm_116 hV   (fun J8 hJJ => ?_)
  have hJ8 := hJJ
  have hn := hT.2.1
  have h3 := hT.1.2.2.1
  unfold wz_116
  try simp only [-eq_self, h3]
  refine ⟨s_Tape_0 ht, ?_⟩
  intro I2 e_I2; subst e_I2
  have L8 : ∀ (n8 : Nat)  (K : jx_I), n8 = ((K a0 2).toInt - (K a0 3).toInt).toNat → (∃ i : Nat, i ≤ T.length ∧ i + (wrd T i).length = p + (wrd T p).length ∧ TX K a0 T fd (i : Int) p we nf fk fa ∧ FR a0 (a0 + 1) I K) → J8  K := by
    intro n8
    induction n8 using Nat.strongRecOn with
    | ind n8 ih8 =>
    intro  K hn8 hI8
    obtain ⟨i, hi, hs, hK, hF⟩ := hI8
    have h2 := hK.1.2.1; have h3 := hK.1.2.2.1
    refine hJ8 _ ?_
    unfold wz_116_8
    refine ⟨s_Tape_0 ht, ?_⟩
    refine ⟨fun hq1 => ?_, fun hq1 => ?_⟩
    · have hw0 := wrd_0 (T := T) (i := i) (by rw [tat_ge (by omega)]; omega)
      rw [hw0, List.length_nil, Nat.add_zero] at hs
      simp only [-eq_self, h3]
      intro I4 e_I4; subst e_I4
      refine ⟨_, cz_119 (p := i) hV ht (TX_5 (v := (i : Int)) hK (by omega)) hi, ?_⟩
      rintro _ I7 ⟨rfl, h9, hF9⟩
      refine ⟨rfl, ?_⟩
      exact ⟨rfl, by rw [← hs]; exact h9, FR_trans (FR_u hF (by omega) (by omega)) hF9⟩
    · have hb := TX_b hK (i := i) (by omega)
      refine ⟨_, r_Tape_0_0 ht, _, ⟨s_Tape_1 ht, by decide⟩, ?_⟩
      try simp only [-eq_self, h3, Int.toNat_natCast, hb]
      refine ⟨by omega, ?_⟩
      refine ⟨fun hq2 => ?_, fun hq2 => ?_⟩
      · have hw0 := wrd_0 (T := T) (i := i) (by omega)
        rw [hw0, List.length_nil, Nat.add_zero] at hs
        intro I14 e_I14; subst e_I14
        refine ⟨_, cz_119 (p := i) hV ht (TX_5 (v := (i : Int)) hK (by omega)) hi, ?_⟩
        rintro _ I17 ⟨rfl, h9, hF9⟩
        refine ⟨rfl, ?_⟩
        exact ⟨rfl, by rw [← hs]; exact h9, FR_trans (FR_u hF (by omega) (by omega)) hF9⟩
      · refine ⟨by omega, ?_⟩
        refine ⟨fun hq3 => ?_, fun hq3 => ?_⟩
        · have hw0 := wrd_0 (T := T) (i := i) (by omega)
          rw [hw0, List.length_nil, Nat.add_zero] at hs
          intro I20 e_I20; subst e_I20
          refine ⟨_, cz_119 (p := i) hV ht (TX_5 (v := (i : Int)) hK (by omega)) hi, ?_⟩
          rintro _ I23 ⟨rfl, h9, hF9⟩
          refine ⟨rfl, ?_⟩
          exact ⟨rfl, by rw [← hs]; exact h9, FR_trans (FR_u hF (by omega) (by omega)) hF9⟩
        · intro I25 e_I25; subst e_I25
          have hK2 := TX_3 (v := (i : Int) + 1) hK (by omega)
          have h22 := hK2.1.2.1; have h32 := hK2.1.2.2.1
          exact ih8 _ (by omega) _ rfl (⟨i + 1, by omega, by rw [← hs, wrd_1 (i := i) (by omega), List.length_cons]; omega, hK2, FR_u hF (by omega) (by omega)⟩)
  exact L8 _ _ rfl (⟨p, hp, rfl, TX_4 hT (by omega), FR_empty I a0 4 _ (by omega)⟩)
def dval (ds : List Int) (v : Int) : Int := ds.foldl (fun v c => min (v * 10 + c - 48) 100000) v
theorem dval_rng : ∀ (ds : List Int) (v : Int), (∀ c ∈ ds, 48 ≤ c ∧ c ≤ 57) → 0 ≤ v ∧ v ≤ 100000 → 0 ≤ dval ds v ∧ dval ds v ≤ 100000 := by
  intro ds
  induction ds with
  | nil => intro v _ h; exact h
  | cons c ds ih =>
    intro v hc h
    have h1 := hc c (by simp)
    exact ih _ (fun e he => hc e (by simp [he])) (show 0 ≤ min (v * 10 + c - 48) 100000 ∧ min (v * 10 + c - 48) 100000 ≤ 100000 by omega)
/-- a number that is told at p: its value -/
def nval (T : List Int) (p : Nat) : Int := dval (dig T p) 0
/-- how a number of lo to hi is read at p: r, the place, the fault -/
def NB (T : List Int) (p : Nat) (lo hi : Int) (r q fk fa : Int) : Prop := (dig T p ≠ [] ∧ lo ≤ nval T p ∧ nval T p ≤ hi ∧ r = nval T p ∧ q = (skB T (p + (dig T p).length) : Nat) ∧ fk = 0 ∧ fa = -1) ∨ (dig T p = [] ∧ r = -1 ∧ fk = 1 ∧ fa = p) ∨ (dig T p ≠ [] ∧ ¬ (lo ≤ nval T p ∧ nval T p ≤ hi) ∧ r = -1 ∧ fk = 2 ∧ fa = p)
/-- GrievingCamels$Tape.readNumber -/
theorem cz_118 {V : jx_V} (hV : V.1.stackTraces = false) {X : jx_X} {R : jx_R} {I : jx_I} {a0 : Nat} {a1 : Int} {a2 : Int} {T : List Int} {fd wf we nf : Int} {p : Nat}
    (ht : BX X R a0 TTape) (hT : TX I a0 T fd (p : Int) wf we nf 0 (-1)) (hp : p ≤ T.length) (r_a1 : -2147483648 ≤ a1 ∧ a1 < 2147483648) (r_a2 : -2147483648 ≤ a2 ∧ a2 < 2147483648)
    {QE : String → jx_I → Prop} : jc V 2 118 (0, 0) [.ref a0, jy a1, jy a2] X I R (fun rv I' => (∃ r q fk fa : Int, rv = some (jy r) ∧ NB T p a1 a2 r q fk fa ∧ TX I' a0 T fd q wf we p fk fa) ∧ FR a0 (a0 + 1) I I') QE := by
  refine wm_118 hV (by omega) (by omega)  (fun J10 hJJ => ?_)
  have hJ10 := hJJ
  have hn := hT.2.1
  have h3 := hT.1.2.2.1
  unfold wz_118
  try simp only [-eq_self, h3]
  refine ⟨s_Tape_0 ht, ?_⟩
  intro I2 e_I2; subst e_I2
  have L10 : ∀ (n10 : Nat) (l3 : Int) (K : jx_I), n10 = ((K a0 2).toInt - (K a0 3).toInt).toNat → (∃ i : Nat, i ≤ T.length ∧ i + (dig T i).length = p + (dig T p).length ∧ dval (dig T i) l3 = nval T p ∧ (0 ≤ l3 ∧ l3 ≤ 100000) ∧ TX K a0 T fd (i : Int) wf we p 0 (-1) ∧ FR a0 (a0 + 1) I K) → J10 l3 K := by
    intro n10
    induction n10 using Nat.strongRecOn with
    | ind n10 ih10 =>
    intro l3 K hn10 hI10
    obtain ⟨i, hi, hs, hv, hb3, hK, hF⟩ := hI10
    have h2 := hK.1.2.1; have h3 := hK.1.2.2.1; have h6 := hK.1.2.2.2.2.2.1
    refine hJ10 _ _ ?_
    unfold wz_118_10
    refine ⟨s_Tape_0 ht, ?_⟩
    refine ⟨fun hq1 => ?_, fun hq1 => ?_⟩
    · have hd0 := dig_0 (T := T) (i := i) (by rw [tat_ge (by omega)]; omega)
      rw [hd0, List.length_nil, Nat.add_zero] at hs
      rw [hd0] at hv
      have hv : l3 = nval T p := hv
      have h6 := hK.1.2.2.2.2.2.1
      have hne : i ≠ p → dig T p ≠ [] := fun h e => by rw [e] at hs; simp at hs; omega
      have heq : i = p → dig T p = [] := fun h => List.length_eq_zero_iff.mp (by omega)
      refine ⟨fun hq2 => ?_, fun hq2 => ?_⟩
      · refine ⟨by omega, ?_⟩
        refine ⟨fun hq3 => ?_, fun hq3 => ?_⟩
        · refine ⟨_, cz_106 hV ht hK (by omega) (by rw [h6]; omega), ?_⟩
          rintro _ I7 ⟨rfl, h9, hF9⟩
          refine ⟨_, rfl, ?_⟩
          rw [h6] at h9
          exact ⟨⟨_, _, _, _, rfl, Or.inr (Or.inr ⟨hne (by omega), by omega, rfl, rfl, rfl⟩), h9⟩, FR_trans hF hF9⟩
        · refine ⟨fun hq4 => ?_, fun hq4 => ?_⟩
          · refine ⟨_, cz_119 (p := i) hV ht hK hi, ?_⟩
            rintro _ I11 ⟨rfl, h9, hF9⟩
            refine ⟨rfl, ?_⟩
            exact ⟨⟨_, _, _, _, rfl, Or.inl ⟨hne (by omega), by omega, by omega, hv, by rw [← hs], rfl, rfl⟩, h9⟩, FR_trans hF hF9⟩
          · refine ⟨_, cz_106 hV ht hK (by omega) (by rw [h6]; omega), ?_⟩
            rintro _ I15 ⟨rfl, h9, hF9⟩
            refine ⟨_, rfl, ?_⟩
            rw [h6] at h9
            exact ⟨⟨_, _, _, _, rfl, Or.inr (Or.inr ⟨hne (by omega), by omega, rfl, rfl, rfl⟩), h9⟩, FR_trans hF hF9⟩
      · refine ⟨_, cz_106 hV ht hK (by omega) (by rw [h6]; omega), ?_⟩
        rintro _ I19 ⟨rfl, h9, hF9⟩
        refine ⟨_, rfl, ?_⟩
        rw [h6] at h9
        exact ⟨⟨_, _, _, _, rfl, Or.inr (Or.inl ⟨heq (by omega), rfl, rfl, rfl⟩), h9⟩, FR_trans hF hF9⟩
    · have hb := TX_b hK (i := i) (by omega)
      have hbr := jy_rng (K (a0 + 1) i)
      rw [hb] at hbr
      refine ⟨_, r_Tape_0_0 ht, _, ⟨s_Tape_1 ht, by decide⟩, ?_⟩
      try simp only [-eq_self, h3, Int.toNat_natCast, hb]
      refine ⟨by omega, ?_⟩
      refine ⟨fun hq5 => ?_, fun hq5 => ?_⟩
      · have hd0 := dig_0 (T := T) (i := i) (by omega)
        rw [hd0, List.length_nil, Nat.add_zero] at hs
        rw [hd0] at hv
        have hv : l3 = nval T p := hv
        have h6 := hK.1.2.2.2.2.2.1
        have hne : i ≠ p → dig T p ≠ [] := fun h e => by rw [e] at hs; simp at hs; omega
        have heq : i = p → dig T p = [] := fun h => List.length_eq_zero_iff.mp (by omega)
        refine ⟨fun hq6 => ?_, fun hq6 => ?_⟩
        · refine ⟨by omega, ?_⟩
          refine ⟨fun hq7 => ?_, fun hq7 => ?_⟩
          · refine ⟨_, cz_106 hV ht hK (by omega) (by rw [h6]; omega), ?_⟩
            rintro _ I29 ⟨rfl, h9, hF9⟩
            refine ⟨_, rfl, ?_⟩
            rw [h6] at h9
            exact ⟨⟨_, _, _, _, rfl, Or.inr (Or.inr ⟨hne (by omega), by omega, rfl, rfl, rfl⟩), h9⟩, FR_trans hF hF9⟩
          · refine ⟨fun hq8 => ?_, fun hq8 => ?_⟩
            · refine ⟨_, cz_119 (p := i) hV ht hK hi, ?_⟩
              rintro _ I33 ⟨rfl, h9, hF9⟩
              refine ⟨rfl, ?_⟩
              exact ⟨⟨_, _, _, _, rfl, Or.inl ⟨hne (by omega), by omega, by omega, hv, by rw [← hs], rfl, rfl⟩, h9⟩, FR_trans hF hF9⟩
            · refine ⟨_, cz_106 hV ht hK (by omega) (by rw [h6]; omega), ?_⟩
              rintro _ I37 ⟨rfl, h9, hF9⟩
              refine ⟨_, rfl, ?_⟩
              rw [h6] at h9
              exact ⟨⟨_, _, _, _, rfl, Or.inr (Or.inr ⟨hne (by omega), by omega, rfl, rfl, rfl⟩), h9⟩, FR_trans hF hF9⟩
        · refine ⟨_, cz_106 hV ht hK (by omega) (by rw [h6]; omega), ?_⟩
          rintro _ I41 ⟨rfl, h9, hF9⟩
          refine ⟨_, rfl, ?_⟩
          rw [h6] at h9
          exact ⟨⟨_, _, _, _, rfl, Or.inr (Or.inl ⟨heq (by omega), rfl, rfl, rfl⟩), h9⟩, FR_trans hF hF9⟩
      · refine ⟨by omega, ?_⟩
        refine ⟨fun hq9 => ?_, fun hq9 => ?_⟩
        · have hd0 := dig_0 (T := T) (i := i) (by omega)
          rw [hd0, List.length_nil, Nat.add_zero] at hs
          rw [hd0] at hv
          have hv : l3 = nval T p := hv
          have h6 := hK.1.2.2.2.2.2.1
          have hne : i ≠ p → dig T p ≠ [] := fun h e => by rw [e] at hs; simp at hs; omega
          have heq : i = p → dig T p = [] := fun h => List.length_eq_zero_iff.mp (by omega)
          refine ⟨fun hq10 => ?_, fun hq10 => ?_⟩
          · refine ⟨by omega, ?_⟩
            refine ⟨fun hq11 => ?_, fun hq11 => ?_⟩
            · refine ⟨_, cz_106 hV ht hK (by omega) (by rw [h6]; omega), ?_⟩
              rintro _ I47 ⟨rfl, h9, hF9⟩
              refine ⟨_, rfl, ?_⟩
              rw [h6] at h9
              exact ⟨⟨_, _, _, _, rfl, Or.inr (Or.inr ⟨hne (by omega), by omega, rfl, rfl, rfl⟩), h9⟩, FR_trans hF hF9⟩
            · refine ⟨fun hq12 => ?_, fun hq12 => ?_⟩
              · refine ⟨_, cz_119 (p := i) hV ht hK hi, ?_⟩
                rintro _ I51 ⟨rfl, h9, hF9⟩
                refine ⟨rfl, ?_⟩
                exact ⟨⟨_, _, _, _, rfl, Or.inl ⟨hne (by omega), by omega, by omega, hv, by rw [← hs], rfl, rfl⟩, h9⟩, FR_trans hF hF9⟩
              · refine ⟨_, cz_106 hV ht hK (by omega) (by rw [h6]; omega), ?_⟩
                rintro _ I55 ⟨rfl, h9, hF9⟩
                refine ⟨_, rfl, ?_⟩
                rw [h6] at h9
                exact ⟨⟨_, _, _, _, rfl, Or.inr (Or.inr ⟨hne (by omega), by omega, rfl, rfl, rfl⟩), h9⟩, FR_trans hF hF9⟩
          · refine ⟨_, cz_106 hV ht hK (by omega) (by rw [h6]; omega), ?_⟩
            rintro _ I59 ⟨rfl, h9, hF9⟩
            refine ⟨_, rfl, ?_⟩
            rw [h6] at h9
            exact ⟨⟨_, _, _, _, rfl, Or.inr (Or.inl ⟨heq (by omega), rfl, rfl, rfl⟩), h9⟩, FR_trans hF hF9⟩
        · refine ⟨by omega, ?_⟩
          refine ⟨_, cz_329 hV (by omega) (by omega), ?_⟩
          rintro _ I64 ⟨rfl, e9⟩; replace e9 := e9.symm; subst e9
          refine ⟨_, rfl, ?_⟩
          intro I66 e_I66; subst e_I66
          simp only [-eq_self, h3]
          have hK2 := TX_3 (v := (i : Int) + 1) hK (by omega)
          have h22 := hK2.1.2.1; have h32 := hK2.1.2.2.1
          exact ih10 _ (by omega) _ _ rfl (⟨i + 1, by omega, by rw [← hs, dig_1 (i := i) (by omega), List.length_cons]; omega, by rw [← hv, dig_1 (i := i) (by omega)]; rfl, by omega, hK2, FR_u hF (by omega) (by omega)⟩)
  exact L10 _ _ _ rfl (⟨p, hp, rfl, rfl, by omega, TX_6 hT (by omega), FR_empty I a0 6 _ (by omega)⟩)
theorem takeWhile_get {α : Type} (f : α → Bool) : ∀ (l : List α) (k : Nat), k < (l.takeWhile f).length → (l.takeWhile f)[k]? = l[k]? := by
  intro l
  induction l with
  | nil => intro k h; simp at h
  | cons a l ih =>
    intro k h
    rw [List.takeWhile_cons] at h ⊢
    cases ha : f a with
    | false => simp [ha] at h
    | true =>
      simp only [ha, if_true] at h ⊢
      cases k with
      | zero => rfl
      | succ k =>
        simp only [List.getElem?_cons_succ]
        exact ih k (by simpa using h)
theorem wrd_get {T : List Int} {w k : Nat} (h : k < (wrd T w).length) : (wrd T w)[k]? = some (tat T (w + k)) := by
  unfold wrd at h ⊢
  rw [takeWhile_get _ _ _ h, List.getElem?_drop]
  have := tw_le isl (T.drop w)
  rw [List.length_drop] at this
  exact tat_lt (by omega)
/-- GrievingCamels$Tape.wordIs -/
theorem cz_117 {V : jx_V} (hV : V.1.stackTraces = false) {X : jx_X} {R : jx_R} {I : jx_I} {a0 : Nat} {a1 : Nat} {T : List Int} {fd p nf fk fa : Int} {w : Nat}
    (ht : BX X R a0 TTape) (hT : TX I a0 T fd p (w : Int) (w + (wrd T w).length : Nat) nf fk fa) (hw : w ≤ T.length) (h_a1 : a1 < 34)
    {QE : String → jx_I → Prop} : jc V 5 117 (0, 0) [.ref a0, .ref (V.2.2.2.1 a1)] X I R (fun rv I' => rv = some (jy (if wrd T w = sbi a1 then 1 else 0)) ∧ I' = I) QE := by
  refine wm_117 hV  h_a1 (fun J20 hJJ => ?_)
  have hJ20 := hJJ
  have hn := hT.2.1
  have h4 := hT.1.2.2.2.1; have h5 := hT.1.2.2.2.2.1
  have hsl := jz_sbl a1 h_a1
  have hwl := wrd_le hw
  unfold wz_117
  try simp only [-eq_self, h4, h5]
  refine ⟨s_Tape_0 ht, ?_⟩
  refine ⟨_, cz_330 hV h_a1, ?_⟩
  rintro _ I4 ⟨rfl, e9⟩; replace e9 := e9.symm; subst e9
  refine ⟨_, rfl, ?_⟩
  refine ⟨by omega, by omega, ?_⟩
  refine ⟨fun hq1 => ?_, fun hq1 => ?_⟩
  · have L20 : ∀ (n20 : Nat) (l2 : Int) (K : jx_I), n20 = (((jx_sb a1).length : Int) - l2).toNat → (∃ i : Nat, l2 = i ∧ i ≤ (jx_sb a1).length ∧ (wrd T w).length = (jx_sb a1).length ∧ (∀ k, k < i → tat T (w + k) = (sbi a1).getD k 0) ∧ K = I) → J20 l2 K := by
      intro n20
      induction n20 using Nat.strongRecOn with
      | ind n20 ih20 =>
      intro l2 K hn20 hI20
      obtain ⟨i, rfl, hi, hlen, heq, rfl⟩ := hI20
      refine hJ20 _ _ ?_
      unfold wz_117_20
      refine ⟨_, cz_330 hV h_a1, ?_⟩
      rintro _ I10 ⟨rfl, e9⟩; replace e9 := e9.symm; subst e9
      refine ⟨_, rfl, ?_⟩
      refine ⟨by omega, by omega, ?_⟩
      refine ⟨fun hq2 => ?_, fun hq2 => ?_⟩
      · refine ⟨?_, rfl⟩
        rw [if_pos]
        apply List.ext_getElem?
        intro k
        rcases Nat.lt_or_ge k (wrd T w).length with h | h
        · have e1 := heq k (by omega)
          have e2 : (wrd T w)[k]? = some (tat T (w + k)) := wrd_get h
          rw [e2, e1, List.getD_eq_getElem?_getD, List.getElem?_eq_getElem (show k < (sbi a1).length by unfold sbi; simp; omega)]
          rfl
        · rw [List.getElem?_eq_none h, List.getElem?_eq_none (by unfold sbi; simp; omega)]
      · have hb := TX_b hT (i := w + i) (by omega)
        have hbr := jy_rng (K (a0 + 1) (w + i))
        rw [hb] at hbr
        have hgs : ((jx_sb a1).getD i 0).toInt = (sbi a1).getD i 0 := by
          unfold sbi
          rw [List.getD_eq_getElem?_getD, List.getD_eq_getElem?_getD, List.getElem?_map]
          rw [List.getElem?_eq_getElem (show i < (jx_sb a1).length by omega)]
          rfl
        refine ⟨s_Tape_0 ht, _, r_Tape_0_0 ht, _, ⟨s_Tape_1 ht, by decide⟩, ?_⟩
        try simp only [-eq_self, h4, show ((w : Int) + (i : Int)).toNat = w + i by omega, hb]
        refine ⟨by omega, ?_⟩
        refine ⟨_, cz_331 (i := i) hV h_a1 rfl (by omega), ?_⟩
        rintro _ I22 ⟨rfl, e9⟩; replace e9 := e9.symm; subst e9
        refine ⟨_, rfl, ?_⟩
        refine ⟨jy_rng _, ?_⟩
        refine ⟨fun hq3 => ?_, fun hq3 => ?_⟩
        · exact ih20 _ (by omega) _ _ rfl (⟨i + 1, by omega, by omega, hlen, fun k hk => by
            rcases Nat.lt_or_ge k i with h | h
            · exact heq k h
            · rw [show k = i by omega, ← hgs]; exact hq3, rfl⟩)
        · refine ⟨?_, rfl⟩
          rw [if_neg]
          intro e
          have e2 : (wrd T w)[i]? = some (tat T (w + i)) := wrd_get (by omega)
          rw [e, List.getElem?_eq_getElem (show i < (sbi a1).length by unfold sbi; simp; omega)] at e2
          apply hq3
          rw [hgs, List.getD_eq_getElem?_getD, List.getElem?_eq_getElem (show i < (sbi a1).length by unfold sbi; simp; omega)]
          exact (Option.some.inj e2).symm
    exact L20 _ _ _ rfl (⟨0, rfl, by omega, by omega, fun k hk => by omega, rfl⟩)
  · refine ⟨?_, rfl⟩
    rw [if_neg]
    intro e
    have e2 : (wrd T w).length = (sbi a1).length := by rw [e]
    unfold sbi at e2
    simp at e2
    omega
def by8 (v : Int) (s : Nat) : Int := v / 2 ^ s % 256
/-- GrievingCamels$Tape.hasRoomFor -/
theorem cz_102 {V : jx_V} (hV : V.1.stackTraces = false) {X : jx_X} {R : jx_R} {I : jx_I} {a0 : Nat} {a1 : Int} 
    (ht : BX X R a0 TTape) (r_a1 : -2147483648 ≤ a1 ∧ a1 < 2147483648) (h : -2147483648 ≤ (I a0 1).toInt + a1 ∧ (I a0 1).toInt + a1 < 2147483648)
    {QE : String → jx_I → Prop} : jc V 1 102 (0, 0) [.ref a0, jy a1] X I R (fun rv I' => rv = some (jy (if (I a0 1).toInt + a1 ≤ 600 then 1 else 0)) ∧ I' = I) QE := by
  refine wm_102 hV (by omega)  ?_
  unfold wz_102
  refine ⟨s_Tape_0 ht, by omega, ?_⟩
  refine ⟨fun hq1 => ?_, fun hq1 => ?_⟩
  · exact ⟨by rw [if_neg (by omega)], rfl⟩
  · exact ⟨by rw [if_pos (by omega)], rfl⟩
