/-! ===== the ends, handlers, and a method's contract from its code ===== -/
def jx_Qc (V : jx_V) (X0 : jx_X) (Post : Option Value → jx_X → jx_I → jx_R → Prop) : Array Value → State → Outcome → State → Prop := fun _ st o t => ∃ (rv : Option Value) (X' : jx_X) (I' : jx_I) (R' : jx_R), o = .returned rv ∧ Post rv X' I' R' ∧ jx_Ra V X' I' R' t.heap ∧ (∀ q, X'.2.1 q ≠ none → jx_A X0 q) ∧ va_F (jx_A X0) st t
def jx_XC (V : jx_V) (X0 : jx_X) (PX : String → jx_X → jx_I → jx_R → Prop) : String → State → State → Prop := fun E st t => ∃ (X' : jx_X) (I' : jx_I) (R' : jx_R), PX E X' I' R' ∧ jx_Ra V X' I' R' t.heap ∧ (∀ q, X'.2.1 q ≠ none → jx_A X0 q) ∧ va_F (jx_A X0) st t
abbrev jx_Qm (V : jx_V) (below : List Frame) (args : Array Value) (s : State) (mcs : Nat × Nat) (X0 : jx_X) (Post : Option Value → jx_X → jx_I → jx_R → Prop) (PX : String → jx_X → jx_I → jx_R → Prop) : State → Prop := vx_MQ below (jx_Qc V X0 Post) (jx_XC V X0 PX) args s mcs.1 mcs.2 (jx_A X0)
theorem jx_ctw {x : Nat} (h : x = 13 ∨ x = 21 ∨ x = 30 ∨ x = 61) : x ≠ 0 ∧ ∃ i, i < 4 ∧ jx_ct x = (jx_exe i).1 ∧ Cond.classLink (jx_cn 13) x (jx_ct x) ∈ jx_good ∧ Cond.castable (jx_ct x) (jx_ct x) ∈ lw_tbl := by
  rcases h with rfl | rfl | rfl | rfl
  · exact ⟨by decide, 2, by decide, rfl, jx_gw jx_xw_el2 rfl, jx_xw_ek2⟩
  · exact ⟨by decide, 0, by decide, rfl, jx_gw jx_xw_el0 rfl, jx_xw_ek0⟩
  · exact ⟨by decide, 1, by decide, rfl, jx_gw jx_xw_el1 rfl, jx_xw_ek1⟩
  · exact ⟨by decide, 3, by decide, rfl, jx_gw jx_xw_el3 rfl, jx_xw_ek3⟩
theorem jx_castok (E : String) : jx_vok (.castable E E) = true := rfl
section JEND
variable {V : jx_V} {p : Program} {e : Env} {Rm : Room} {s : State} {m : MethodId} {args : Array Value} {below : List Frame} {meth : Method} {c : Code} {mcs : Nat × Nat} {cc : ByteArray} {o nL D : Nat} {X0 : jx_X}
variable {Post : Option Value → jx_X → jx_I → jx_R → Prop} {PX : String → jx_X → jx_I → jx_R → Prop}
theorem jx_r_iret (hC : jx_C V p Rm s m args meth c cc o nL D (jx_A X0) mcs) {rt : Option FieldType} (hrt : meth.sig.returnType = rt) (pc : Nat) (x : Int32) (L : List (Option Value)) (b : Nat × Nat) (X : jx_X) (I : jx_I) (R : jx_R) (hd : decode cc pc = .ok (.ireturn, 1)) (hn : jx_rok rt x) (hp : Post (some (.int x)) X I R) :
    jx_J V p e Rm s m args below meth c (jx_Qm V below args s mcs X0 Post PX) (jx_A X0) nL mcs pc [.int x] L b X I R := by
  obtain ⟨hx, hb, hml, ho, ht, hE, hA, ⟨hrc, hrs, hfr, hlo⟩, hst', hlk⟩ := hC
  intro H locs cells slots ls h1 h2 h3 h4 h5 h6 h7
  cases rt with
  | none => exact hn.elim
  | some ty => exact vx_ret (W.widen (show cells ≤ mcs.1 by omega) (show slots ≤ mcs.2 by omega) (W.zret hx hb hrt hn (fun t h9 hW => ⟨some (.int x), X, I, R, rfl, hp, by rw [h9]; exact h2, h3, h4.F h9⟩) (fun q hq => h4.2.2 q hq) hd hlk))
theorem jx_r_lret (hC : jx_C V p Rm s m args meth c cc o nL D (jx_A X0) mcs) {rt : Option FieldType} (hrt : meth.sig.returnType = rt) (pc : Nat) (x : Int64) (L : List (Option Value)) (b : Nat × Nat) (X : jx_X) (I : jx_I) (R : jx_R) (hd : decode cc pc = .ok (.lreturn, 1)) (hn : rt = some .long) (hp : Post (some (.long x)) X I R) :
    jx_J V p e Rm s m args below meth c (jx_Qm V below args s mcs X0 Post PX) (jx_A X0) nL mcs pc [.long x] L b X I R := by
  obtain ⟨hx, hb, hml, ho, ht, hE, hA, ⟨hrc, hrs, hfr, hlo⟩, hst', hlk⟩ := hC
  intro H locs cells slots ls h1 h2 h3 h4 h5 h6 h7
  exact vx_ret (W.widen (show cells ≤ mcs.1 by omega) (show slots ≤ mcs.2 by omega) (W.lret hx hb (hrt.trans hn) (fun t h9 hW => ⟨some (.long x), X, I, R, rfl, hp, by rw [h9]; exact h2, h3, h4.F h9⟩) (fun q hq => h4.2.2 q hq) hd hlk))
theorem jx_r_vret (hC : jx_C V p Rm s m args meth c cc o nL D (jx_A X0) mcs) {rt : Option FieldType} (hrt : meth.sig.returnType = rt) (pc : Nat) (L : List (Option Value)) (b : Nat × Nat) (X : jx_X) (I : jx_I) (R : jx_R) (hd : decode cc pc = .ok (.return_, 1)) (hn : rt = none) (hp : Post none X I R) :
    jx_J V p e Rm s m args below meth c (jx_Qm V below args s mcs X0 Post PX) (jx_A X0) nL mcs pc [] L b X I R := by
  obtain ⟨hx, hb, hml, ho, ht, hE, hA, ⟨hrc, hrs, hfr, hlo⟩, hst', hlk⟩ := hC
  intro H locs cells slots ls h1 h2 h3 h4 h5 h6 h7
  exact vx_ret (W.widen (show cells ≤ mcs.1 by omega) (show slots ≤ mcs.2 by omega) (W.vret hx hb (hrt.trans hn) (fun t h9 hW => ⟨none, X, I, R, rfl, hp, by rw [h9]; exact h2, h3, h4.F h9⟩) (fun q hq => h4.2.2 q hq) hd hlk))
theorem jx_Ra_more {X : jx_X} {I : jx_I} {R : jx_R} {H H1 : Heap} (h : jx_Ra V X I R H) (hz : H.size ≤ H1.size) (hq : ∀ q : Nat, q < H.size → H1[q]? = H[q]?) : jx_Ra V (H1.size, X.2) I R H1 :=
  ⟨rfl, fun a sh hs => (h.2 a sh hs).kept (hq a (by rw [h.1]; exact jx_Ra_lt h hs))⟩
theorem jx_cb0 {ix : UInt8} : decode (jx_cb 7) 0 = .ok (.aload_n 0, 1) ∧ decode (jx_cb 7) 1 = .ok (.aload_n 1, 1) ∧ decode (jx_cb 7) 2 = .ok (.invokespecial 7, 3) ∧ decode (jx_cb 7) 5 = .ok (.return_, 1) := by decide +kernel
theorem jx_cb1 : decode (jx_cb 13) 0 = .ok (.aload_n 0, 1) ∧ decode (jx_cb 13) 1 = .ok (.aload_n 1, 1) ∧ decode (jx_cb 13) 2 = .ok (.invokespecial 13, 3) ∧ decode (jx_cb 13) 5 = .ok (.return_, 1) := by decide +kernel
theorem jx_cbx (i : Nat) : decode (jx_cb (jx_cx i).toUInt8) 0 = .ok (.aload_n 0, 1) ∧ decode (jx_cb (jx_cx i).toUInt8) 1 = .ok (.aload_n 1, 1) ∧ decode (jx_cb (jx_cx i).toUInt8) 2 = .ok (.invokespecial (jx_cx i), 3) ∧ decode (jx_cb (jx_cx i).toUInt8) 5 = .ok (.return_, 1) := by
  unfold jx_cx
  by_cases h : i = 1
  · rw [if_pos h]
    exact jx_cb1
  · rw [if_neg h]
    exact jx_cb0 (ix := 0)
theorem jx_fits3 : Bundle.fit "java/lang/RuntimeException" = true ∧ ∀ n ∈ ["java/lang/Exception"], Bundle.fit n = true := by decide +kernel
theorem jx_exs {i : Nat} (h : i < 4) : (jx_exe i).2.2.2.2 < 34 ∧ (jx_ss (jx_exe i).2.2.2.2).1 = 11 ∧ (jx_ss (jx_exe i).2.2.2.2).2.1 = (jx_exe i).2.2.1 := by
  have h1 := List.all_eq_true.mp (show (List.range 4).all (fun i => decide ((jx_exe i).2.2.2.2 < 34 ∧ (jx_ss (jx_exe i).2.2.2.2).1 = 11 ∧ (jx_ss (jx_exe i).2.2.2.2).2.1 = (jx_exe i).2.2.1)) = true by decide +kernel) i (List.mem_range.mpr h)
  exact of_decide_eq_true h1
theorem jx_r_throw (hC : jx_C V p Rm s m args meth c cc o nL D (jx_A X0) mcs) (htab : c.exceptionTable.toList = []) (pc i : Nat) (st : List Value) (L : List (Option Value)) (b : Nat × Nat) (X : jx_X) (I : jx_I) (R : jx_R) (hi : i < 4) (h11 : o = 11)
    (d0 : decode cc pc = .ok (.new (jx_exe i).2.1, 3)) (d3 : decode cc (pc + 3) = .ok (.dup, 1)) (d4 : decode cc (pc + 4) = .ok (.ldc_w (jx_exe i).2.2.1, 3)) (d7 : decode cc (pc + 7) = .ok (.invokespecial (jx_exe i).2.2.2.1, 3)) (d10 : decode cc (pc + 10) = .ok (.athrow, 1))
    (hD : 8 ≤ D) (hb1 : 1 ≤ b.1) (hb2 : 6 ≤ b.2) (hsum : (st.map fun v => v.category).sum ≤ 8) (hp : ∀ X' : jx_X, X.1 ≤ X'.1 → X'.2 = X.2 → PX (jx_exe i).1 X' I R) :
    jx_J V p e Rm s m args below meth c (jx_Qm V below args s mcs X0 Post PX) (jx_A X0) nL mcs pc st L b X I R := by
  obtain ⟨hx, hb, hml, ho, ht, hE, hA, ⟨hrc, hrs, hfr, hlo⟩, hst', hlk⟩ := hC
  intro H locs cells slots ls h1 h2 h3 h4 h5 h6 h7
  subst h11
  have hw := jx_inp_ok (jx_xin hi)
  obtain ⟨b0, b1, b2, b5⟩ := jx_cbx i
  obtain ⟨s1, s2, s3⟩ := jx_exs hi
  have hstr := (hE.2.2.2.1 _ s1).2
  rw [s2, s3] at hstr
  refine jx_throwW hx hb hst' ho (jx_xfit hi) jx_fits3.1 jx_fits3.2 b0 b1 b2 b5 hstr (fun w h => jx_vok_at hE ht (hw w h).1 (hw w h).2) (fun w h => jx_vok_ot (hw w h).2) hE.2.2.2.2.2.2.1 hE.2.2.2.2.2.2.2.1 h4 (h5.1.trans hml.symm) d0 d3 d4 d7 d10 (fun x hx9 => by rw [htab] at hx9; cases hx9)
    (by show 1 + 4 < _; omega) (by show _ + (13 * (1 + 2) + 43) ≤ _; omega) (by omega) (by omega) hlk ?_ (fun z hz => h4.2.2 z hz) (by omega) (by omega)
  intro t hal hz hq
  exact ⟨(t.heap.size, X.2), I, R, hp _ (by rw [← h2.1]; exact hz) rfl, jx_Ra_more h2 hz hq, h3, (jx_Sn h4 hz hq).F rfl⟩
theorem jx_r_out (hC : jx_C V p Rm s m args meth c cc o nL D (jx_A X0) mcs) {pc : Nat} {L : List (Option Value)} {b : Nat × Nat} {E : String} {X : jx_X} {I : jx_I} {R : jx_R} (hpass : ∀ z ∈ c.exceptionTable.toList, covers z pc = false ∨ (z.catchType ≠ 0 ∧ ∃ nm : String, (Cond.classLink (jx_cn o) z.catchType nm).before args s = true ∧ va_Nc E nm s)) (hp : PX E X I R) :
    jx_Kx V p e Rm s m args below meth c (jx_Qm V below args s mcs X0 Post PX) (jx_A X0) nL mcs pc L b E X I R := by
  obtain ⟨hx, hb, hml, ho, ht, hE, hA, ⟨hrc, hrs, hfr, hlo⟩, hst', hlk⟩ := hC
  intro rest H locs cells slots ls q ce h1 h2 h3 h4 h5 h6 h7 g1 g2 g3
  exact vx_outP ho hlk hpass g1 g2 g3 (fun t h9 _ => ⟨X, I, R, hp, by rw [h9]; exact h2, h3, h4.F h9⟩) (fun z hz => h4.2.2 z hz) (by omega) (by omega)
theorem jx_r_hand (hC : jx_C V p Rm s m args meth c cc o nL D (jx_A X0) mcs) (h13 : o = 13) {pc : Nat} {L : List (Option Value)} {b : Nat × Nat} {E : String} {X : jx_X} {I : jx_I} {R : jx_R} {j : Nat} (hj : j < 4) (hEj : E = (jx_exe j).1) :
    ∀ (l : List (Nat × Nat × Nat × Nat)) (pre : List ExceptionTableEntry), c.exceptionTable.toList = pre ++ tableOf l → (∀ x ∈ l, x.2.2.2 = 13 ∨ x.2.2.2 = 21 ∨ x.2.2.2 = 30 ∨ x.2.2.2 = 61) →
      (∀ z ∈ pre, covers z pc = false ∨ (z.catchType ≠ 0 ∧ ∃ nm : String, (Cond.classLink (jx_cn o) z.catchType nm).before args s = true ∧ va_Nc E nm s)) →
      (match jx_hf l pc jx_ct E with
        | some h => ∀ q : Nat, jx_J V p e Rm s m args below meth c (jx_Qm V below args s mcs X0 Post PX) (jx_A X0) nL mcs h [.ref q] L b X I R
        | none => PX E X I R) → jx_Kx V p e Rm s m args below meth c (jx_Qm V below args s mcs X0 Post PX) (jx_A X0) nL mcs pc L b E X I R := by
  intro l
  induction l with
  | nil =>
    intro pre htab _ hpass hw
    refine jx_r_out hC ?_ hw
    intro z hz
    rw [htab] at hz
    exact hpass z ((List.mem_append.mp hz).elim id (fun q => by cases q))
  | cons x l ih =>
    intro pre htab hct hpass hw
    have hC' := hC
    obtain ⟨hx, hb, hml, ho, ht, hE, hA, ⟨hrc, hrs, hfr, hlo⟩, hst', hlk⟩ := hC'
    obtain ⟨hne, i, hi, hci, hlw, hcw⟩ := jx_ctw (hct x List.mem_cons_self)
    unfold jx_hf at hw
    by_cases hc : x.1 ≤ pc ∧ pc < x.2.1 ∧ jx_ct x.2.2.2 = E
    · rw [if_pos hc] at hw
      intro rest H locs cells slots ls q ce h1 h2 h3 h4 h5 h6 h7 g1 g2 g3
      have hcast : (Cond.castable E (jx_ct x.2.2.2)).before args s = true := by
        rw [← hc.2.2]
        exact jx_vok_at hE ht hcw (jx_castok _)
      refine vx_catch ho pre ⟨x.1, x.2.1, x.2.2.1, x.2.2.2⟩ (tableOf l) htab hpass ?_ hne (name := jx_ct x.2.2.2) ?_ hcast g1 g2 g3 (hw q H locs cells slots ls h1 h2 h3 h4 h5 h6 h7)
      · show (decide (x.1 ≤ pc) && decide (pc < x.2.1)) = true
        rw [decide_eq_true hc.1, decide_eq_true hc.2.1]
        rfl
      · rw [h13]
        exact ht _ hlw
    · rw [if_neg hc] at hw
      refine ih (pre ++ [⟨x.1, x.2.1, x.2.2.1, x.2.2.2⟩]) (by rw [htab, List.append_assoc]; rfl) (fun y hy => hct y (List.mem_cons_of_mem _ hy)) ?_ hw
      intro z hz
      rcases List.mem_append.mp hz with hz | hz
      · exact hpass z hz
      · rw [List.mem_singleton.mp hz]
        by_cases hin : x.1 ≤ pc ∧ pc < x.2.1
        · refine Or.inr ⟨hne, jx_ct x.2.2.2, ?_, ?_⟩
          · rw [h13]
            exact ht _ hlw
          · rw [hci, hEj]
            refine hE.2.1.2.2.2.2 j i hj hi ?_
            intro hji
            exact hc ⟨hin.1, hin.2, by rw [hci, hEj, hji]⟩
        · left
          show (decide (x.1 ≤ pc) && decide (pc < x.2.1)) = false
          by_cases q1 : x.1 ≤ pc
          · rw [decide_eq_true q1, decide_eq_false (fun q2 => hin ⟨q1, q2⟩)]
            rfl
          · rw [decide_eq_false q1]
            rfl
theorem jx_sound (hC : jx_C V p Rm s m args meth c cc o nL D (jx_A X0) mcs) (h18 : o ≤ 18) {ini : Bool} (hini : ini = true → meth.name = "<init>") {rt : Option FieldType} (hrt : meth.sig.returnType = rt) {hh : List (Nat × Nat × Nat × Nat)} (htab : c.exceptionTable.toList = tableOf hh)
    (hoh : hh = [] ∨ (o = 13 ∧ ∀ x ∈ hh, x.2.2.2 = 13 ∨ x.2.2.2 = 21 ∨ x.2.2.2 = 30 ∨ x.2.2.2 = 61)) {Cd : List jx_row} (hk : ∀ q ∈ Cd, jx_chk cc o q = true) (hk2 : ∀ q ∈ Cd, jx_ck2 o q = true) :
    jx_Snd V D rt hh ini Cd (jx_J V p e Rm s m args below meth c (jx_Qm V below args s mcs X0 Post PX) (jx_A X0) nL mcs) (fun rv _ X I R => Post rv X I R) (fun E _ X I R => PX E X I R) := by
  refine ⟨?_, ?_⟩
  · intro pc st L L' b X I R hlen hsub hJ H locs cells slots ls h1 h2 h3 h4 h5 h6 h7
    exact hJ H locs cells slots ls (hlen.trans h1) h2 h3 h4 ⟨h5.1, h5.2.1, fun i v hi => h5.2.2 i v (hsub i v hi)⟩ h6 h7
  · intro pc ins nx r1 r2 r3 st L b X I R hat hw
    have hm := jx_at_mem Cd hat
    refine jx_step hC h18 hini (fun pc x L b X I R hd hn hp => jx_r_iret hC hrt pc x L b X I R hd hn hp) (fun pc x L b X I R hd hn hp => jx_r_lret hC hrt pc x L b X I R hd hn hp) (fun pc L b X I R hd hn hp => jx_r_vret hC hrt pc L b X I R hd hn hp)
      (fun pc i st L b X I R hi h11 hh0 d0 d3 d4 d7 d10 hD hb1 hb2 hsum hp => jx_r_throw hC (by rw [htab, hh0]; rfl) pc i st L b X I R hi h11 d0 d3 d4 d7 d10 hD hb1 hb2 hsum hp) ?_ (hk _ hm) (hk2 _ hm) hw
    intro pc L b E X I R hkx
    cases hh with
    | nil => exact jx_r_out hC (fun z hz => by rw [htab] at hz; cases hz) hkx
    | cons h0 hr =>
      obtain ⟨⟨j, hj, hEj⟩, hkx⟩ := hkx
      obtain ⟨h13, hct⟩ := hoh.resolve_left (fun q => nomatch q)
      exact jx_r_hand hC h13 hj hEj (h0 :: hr) [] htab hct (fun z hz => by cases hz) hkx
end JEND
theorem jx_plain : (List.range 377).all (fun z => plainFor (jx_nm z)) = true := by decide +kernel
theorem jx_plainW : (List.range 377).all (fun z => (jx_hz z).isEmpty || (plainName (jx_nm z).cls && Nat.beq (jx_ow z) 13 && (jx_hz z).all (fun x => Nat.beq x.2.2.2 13 || Nat.beq x.2.2.2 21 || Nat.beq x.2.2.2 30 || Nat.beq x.2.2.2 61))) = true := by decide +kernel
theorem jx_ofF {l : Launch} {y : MethodName} {ws ws' : List Cond} {rm : Room} {Pc : Array Value → State → Prop} {Qc : Array Value → State → Outcome → State → Prop} {XC : String → State → State → Prop} {mc ms : Nat} {free : Addr → Prop} {cc : ByteArray} {maxL : Nat} {ret : Option FieldType}
    (hy : plainFor y = true) (hw : ws = Cond.code y cc maxL ret :: ws')
    (body : ∀ p e s m args below meth c s₁, BodyLoose p l y (headSpec ws rm) cc maxL ret e s m args below meth c s₁ → c.maxLocals = maxL → c.exceptionTable.toList = [] → Pc args s →
      W p l e (headSpec ws rm).room s m args below meth c s.heap [] 0 0 (vx_MQ below Qc XC args s mc ms free) (entryFrame m args maxL)) : vx_Met l y ws rm Pc Qc XC mc ms free := by
  refine MetFree.of_bodySF (code := cc) (maxLocals := maxL) (ret := ret) hy ?_ ?_
  · intro args s m h hn
    obtain ⟨meth, c, h1, h2, h3, h4, h5, h6, -, -⟩ := Cond.code_spec hn (atoms_spec (ws := ws) h _ (by rw [hw]; exact List.mem_cons_self))
    exact ⟨meth, c, h1, h2, h3, h4, h5, h6⟩
  · intro p e s m args below meth c s₁ B hml hP _
    have hh0 : s₁.heap = s.heap := by rw [B.state]; rfl
    have ht : c.exceptionTable.toList = [] := by
      obtain ⟨meth9, c9, h1, h2, -, -, -, -, h7, -⟩ := Cond.code_spec B.named (atoms_spec (ws := ws) B.pre _ (by rw [hw]; exact List.mem_cons_self))
      cases Option.some.inj (h1.symm.trans B.method)
      cases Option.some.inj (h2.symm.trans (Stand.of_body B).code)
      rw [Array.isEmpty_iff.mp h7]
    obtain ⟨t, a1, o, b1, b2, b3⟩ := body p e s m args below meth c s₁ B hml ht hP s₁ hh0 (Stand.of_body B)
    exact ⟨t, o, a1, b1, b2, b3⟩
/-- the facts of a body -/
theorem jx_Cof {V : jx_V} {d z : Nat} {b : Nat × Nat} {X : jx_X} {I : jx_I} {R : jx_R} (hz : z < 377) (hV : V.1.stackTraces = false) {p : Program} {e : Env} {s : State} {m : MethodId} {args : Array Value} {below : List Frame} {meth : Method} {c : Code} {s₁ : State}
    (B : BodyLoose p V.1 (jx_nm z) (headSpec (jx_ws z) (jx_rm d b)) (jx_by z) (jx_ml z) (jx_rt z) e s m args below meth c s₁) (hml : c.maxLocals = jx_ml z) (hRa : jx_Ra V X I R s.heap) (hE : jx_E V (jx_A X) s s.heap) :
    jx_C V p (headSpec (jx_ws z) (jx_rm d b)).room s m args meth c (jx_by z) (jx_ow z) (jx_ml z) d (jx_A X) b := by
  have hown := findClass_of_methodNamed B.named
  rw [(jx_cls_z hz).1] at hown
  exact ⟨B.exec, B.bytes, hml, hown, fun w hw => atoms_spec (ws := jx_ws z) B.pre w (List.mem_cons_of_mem _ hw), hE, fun q hq => Or.inr (by rw [← hRa.1]; exact hq), ⟨rfl, rfl, Nat.le_refl _, Nat.le_refl _⟩, hV, B.notSynchronized⟩
/-- a method's contract, from its code over any judgement that is closed under it -/
theorem jx_met {V : jx_V} {d z : Nat} {b : Nat × Nat} {As : List Value} {X : jx_X} {I : jx_I} {R : jx_R} {Post : Option Value → jx_X → jx_I → jx_R → Prop} {PX : String → jx_X → jx_I → jx_R → Prop} (hz : z < 377) (hV : V.1.stackTraces = false) (hlen : (lg_sl As).length ≤ jx_ml z)
    (hbody : ∀ J : jx_Jt, jx_Snd V d (jx_rt z) (jx_hz z) (decide ((jx_nm z).name = "<init>")) (jx_code z) J (fun rv _ X' I' R' => Post rv X' I' R') (fun E _ X' I' R' => PX E X' I' R') → J 0 [] (jx_ent (jx_ml z) As) b X I R) : jx_Met V d z b As X I R Post PX := by
  have hk : ∀ q ∈ jx_code z, jx_chk (jx_by z) (jx_ow z) q = true := fun q hq => List.all_eq_true.mp (jx_ok z hz) q hq
  have hk2 : ∀ q ∈ jx_code z, jx_ck2 (jx_ow z) q = true := fun q hq => List.all_eq_true.mp (List.all_eq_true.mp jx_ck2All z (List.mem_range.mpr hz)) q hq
  have hpl := List.all_eq_true.mp jx_plainW z (List.mem_range.mpr hz)
  simp only [Bool.or_eq_true, Bool.and_eq_true] at hpl
  have fin : ∀ (p : Program) (e : Env) (s : State) (m : MethodId) (args : Array Value) (below : List Frame) (meth : Method) (c : Code) (s₁ : State), BodyLoose p V.1 (jx_nm z) (headSpec (jx_ws z) (jx_rm d b)) (jx_by z) (jx_ml z) (jx_rt z) e s m args below meth c s₁ → c.maxLocals = jx_ml z → c.exceptionTable.toList = tableOf (jx_hz z) →
      va_Pc As (fun U => jx_Ra V X I R U.heap ∧ jx_E V (jx_A X) U U.heap) args s → W p V.1 e (headSpec (jx_ws z) (jx_rm d b)).room s m args below meth c s.heap [] 0 0 (jx_Qm V below args s b X Post PX) (entryFrame m args (jx_ml z)) := by
    intro p e s m args below meth c s₁ B hml htab hP
    obtain ⟨rfl, hRa, hE⟩ := hP
    rw [lg_entry_eq]
    have hS := jx_sound (e := e) (below := below) (Post := Post) (PX := PX) (jx_Cof hz hV B hml hRa hE) (jx_cls_z hz).2 (ini := decide ((jx_nm z).name = "<init>")) (fun h => (name_of_methodNamed B.named B.method).1.trans (of_decide_eq_true h)) B.returns htab
      (by
        by_cases he : jx_hz z = []
        · exact Or.inl he
        · obtain ⟨⟨-, g1⟩, g2⟩ := hpl.resolve_left (fun q => he (List.isEmpty_iff.mp q))
          refine Or.inr ⟨Nat.eq_of_beq_eq_true g1, fun x hx => ?_⟩
          have g3 := List.all_eq_true.mp g2 x hx
          simp only [Bool.or_eq_true] at g3
          rcases g3 with ((g3 | g3) | g3) | g3
          · exact Or.inl (Nat.eq_of_beq_eq_true g3)
          · exact Or.inr (Or.inl (Nat.eq_of_beq_eq_true g3))
          · exact Or.inr (Or.inr (Or.inl (Nat.eq_of_beq_eq_true g3)))
          · exact Or.inr (Or.inr (Or.inr (Nat.eq_of_beq_eq_true g3)))) hk hk2
    exact hbody _ hS s.heap [] 0 0 _ (jx_ent_len hlen) hRa (fun q hq => Or.inl hq) va_S.rf (jx_L_ent hlen) (by omega) (by omega)
  by_cases he : jx_hz z = []
  · exact jx_ofF (ws' := jx_good) (List.all_eq_true.mp jx_plain z (List.mem_range.mpr hz)) (by unfold jx_ws; rw [jx_w_code hz he]) (fun p e s m args below meth c s₁ B hml htab hP => fin p e s m args below meth c s₁ B hml (by rw [he]; exact htab) hP)
  · have hws : jx_ws z = Cond.codeWith (jx_nm z) (jx_by z) (jx_ml z) (jx_rt z) (jx_hz z) :: jx_good := by unfold jx_ws; rw [jx_w_codeWith hz he]
    exact vx_ofWH (ws' := jx_good) (hpl.resolve_left (fun q => he (List.isEmpty_iff.mp q))).1.1 hws (fun p e s m args below meth c s₁ B hml hP => fin p e s m args below meth c s₁ B hml (vx_table (x := jx_nm z) B (atoms_spec (ws := jx_ws z) B.pre _ (by rw [hws]; exact List.mem_cons_self))) hP)
