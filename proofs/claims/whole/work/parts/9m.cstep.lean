/-! ===== what the class read of a plan ===== -/
/-- steps from a on, before b: what is next; g the steps -/
def NBf (nx : Nat → Int) (g : Nat → Option SP) : Nat → Nat → Nat → Nat → Prop
  | 0, _, a, b => b ≤ a
  | f + 1, D, a, b => a < b → D ≤ 6 ∧ ∃ e, g a = some e ∧ (a < e.2.2.2.1 ∧ e.2.2.2.1 ≤ e.2.2.2.2 ∧ e.2.2.2.2 ≤ b) ∧ nx a = (if e.2.2.2.2 < b then (e.2.2.2.2 : Int) else -1) ∧ NBf nx g f D e.2.2.2.2 b ∧ (7 ≤ e.1 → NBf nx g f (D + 1) (a + 1) e.2.2.2.1) ∧ (e.1 = 9 → NBf nx g f (D + 1) e.2.2.2.1 e.2.2.2.2)
theorem NBf_c {nx nx2 : Nat → Int} {g g2 : Nat → Option SP} : ∀ (f D a b : Nat), NBf nx g f D a b → (∀ k, a ≤ k → k < b → nx2 k = nx k ∧ g2 k = g k) → NBf nx2 g2 f D a b := by
  intro f
  induction f with
  | zero => intro D a b h _; exact h
  | succ f ih =>
    intro D a b h hk hab
    obtain ⟨h1, e, h2, h3, h4, h5, h6, h7⟩ := h hab
    obtain ⟨k1, k2⟩ := hk a (Nat.le_refl _) hab
    exact ⟨h1, e, by rw [k2]; exact h2, h3, by rw [k1]; exact h4, ih _ _ _ h5 (fun k g1 g2 => hk k (by omega) g2), fun h => ih _ _ _ (h6 h) (fun k g1 g2 => hk k (by omega) (by omega)), fun h => ih _ _ _ (h7 h) (fun k g1 g2 => hk k (by omega) (by omega))⟩
theorem NBf_0 {nx : Nat → Int} {g : Nat → Option SP} {f D a b : Nat} (h : b ≤ a) : NBf nx g f D a b := by
  cases f with
  | zero => exact h
  | succ f => intro h2; omega
/-- the step k of steps that begin at n -/
def glk (n : Nat) (S : List SP) (k : Nat) : Option SP := if n ≤ k then S[k - n]? else none
theorem glk_l {n : Nat} {A B : List SP} {k : Nat} (h : k < n + A.length) : glk n (A ++ B) k = glk n A k := by
  unfold glk
  split
  · exact List.getElem?_append_left (by omega)
  · rfl
theorem glk_r {n n2 : Nat} {A B : List SP} {k : Nat} (h : n2 ≤ k) (hn : n2 = n + A.length) : glk n (A ++ B) k = glk n2 B k := by
  subst hn
  unfold glk
  rw [if_pos (by omega), if_pos h, List.getElem?_append_right (by omega), show k - n - A.length = k - (n + A.length) by omega]
theorem NBf_P {nx : Nat → Int} {P : PLT} : ∀ (f D a b : Nat), NBf nx (glk 0 P.1) f D a b → b ≤ P.1.length → NBv nx P f D a b := by
  intro f
  induction f with
  | zero => intro D a b h _; exact h
  | succ f ih =>
    intro D a b h hb
    refine ⟨hb, fun hab => ?_⟩
    obtain ⟨h1, e, h2, h3, h4, h5, h6, h7⟩ := h hab
    refine ⟨h1, fun e2 he2 => ?_⟩
    unfold glk at h2
    rw [if_pos (Nat.zero_le _), Nat.sub_zero, he2] at h2
    cases h2
    exact ⟨h3.2.2, h4, ih _ _ _ h5 hb, fun h => ih _ _ _ (h6 h) (by omega), fun h => ih _ _ _ (h7 h) (by omega)⟩
/-- a Plan's row i holds the step e -/
def CS1 (I : jx_I) (y i : Nat) (e : SP) : Prop := (I (y + 1) i).toInt = (e.1 : Int) ∧ (I (y + 2) i).toInt = e.2.1 ∧ (7 ≤ e.1 → (I (y + 4) i).toInt = if i + 1 < e.2.2.2.1 then ((i + 1 : Nat) : Int) else -1) ∧ (e.1 = 9 → (I (y + 5) i).toInt = if e.2.2.2.1 < e.2.2.2.2 then (e.2.2.2.1 : Int) else -1)
/-- what the class read: steps from n, tests from t, values from v on -/
def CPR (I : jx_I) (y n t v : Nat) (r : PS) : Prop := (∀ (i : Nat) (e : SP), r.1[i]? = some e → CS1 I y (n + i) e ∧ (8 ≤ e.1 → ∀ te, r.2.1[e.2.2.1 - t]? = some te → CT1 I y (n + i) v te r.2.2.1)) ∧ CVW I y v r.2.2.1
theorem CPR_nil {I : jx_I} {y n t v q : Nat} : CPR I y n t v ([], [], [], q) := ⟨fun i e h => (by cases h), fun i e h => (by cases h)⟩
theorem CS1_f {I I' : jx_I} {y tp n v i : Nat} {e : SP} (h : CS1 I y i e) (hf : FPz y tp n v I I') (hi : i < n) : CS1 I' y i e := by
  unfold CS1
  rw [hf.2.1 1 i (by omega) (by omega) hi, hf.2.1 2 i (by omega) (by omega) hi, hf.2.1 4 i (by omega) (by omega) hi, hf.2.1 5 i (by omega) (by omega) hi]
  exact h
theorem CT1_f {I I' : jx_I} {y tp n v v0 i : Nat} {te : TE} {W : List VA} (h : CT1 I y i v0 te W) (hf : FPz y tp n v I I') (hi : i < n) (hv : v0 + W.length ≤ v) : CT1 I' y i v0 te W := by
  refine ⟨?_, ?_, ?_, fun j w a b c => ?_⟩
  · rw [hf.2.1 6 i (by omega) (by omega) hi]; exact h.1
  · rw [hf.2.1 7 i (by omega) (by omega) hi]; exact h.2.1
  · rw [hf.2.1 8 i (by omega) (by omega) hi]; exact h.2.2.1
  · rw [hf.2.2 11 (v0 + j) (by omega) (by omega) (by have := gi_lt c; omega)]; exact h.2.2.2 j w a b c
theorem CVW_f {I I' : jx_I} {y tp n v v0 : Nat} {W : List VA} (h : CVW I y v0 W) (hf : FPz y tp n v I I') (hv : v0 + W.length ≤ v) : CVW I' y v0 W := fun i w hi => by
  have := gi_lt hi
  rw [hf.2.2 9 (v0 + i) (by omega) (by omega) (by omega), hf.2.2 10 (v0 + i) (by omega) (by omega) (by omega)]
  exact h i w hi
theorem CPR_f {I I' : jx_I} {y tp n t v n2 v2 : Nat} {r : PS} (h : CPR I y n t v r) (hf : FPz y tp n2 v2 I I') (h1 : n + r.1.length ≤ n2) (h2 : v + r.2.2.1.length ≤ v2) : CPR I' y n t v r := ⟨fun i e he => ⟨CS1_f (h.1 i e he).1 hf (by have := gi_lt he; omega), fun h8 te hte => CT1_f ((h.1 i e he).2 h8 te hte) hf (by have := gi_lt he; omega) h2⟩, CVW_f h.2 hf h2⟩
theorem CT1_l {I : jx_I} {y i v : Nat} {te : TE} {W W2 : List VA} (h : CT1 I y i v te W) (hv : te.2.2.2 ≤ v + W.length) : CT1 I y i v te (W ++ W2) := ⟨h.1, h.2.1, h.2.2.1, fun j w a b c => by
  rw [List.getElem?_append_left (by omega)] at c
  exact h.2.2.2 j w a b c⟩
theorem CT1_r {I : jx_I} {y i v v2 : Nat} {te : TE} {W W2 : List VA} (h : CT1 I y i v2 te W2) (e : v2 = v + W.length) (hv : v2 ≤ te.1) : CT1 I y i v te (W ++ W2) := ⟨h.1, h.2.1, h.2.2.1, fun j w a b c => by
  subst e
  rw [List.getElem?_append_right (by omega)] at c
  have := h.2.2.2 (j - W.length) w (by omega) (by omega) c
  rw [show v + W.length + (j - W.length) = v + j by omega] at this
  exact this⟩
theorem CVW_app {I : jx_I} {y v v2 : Nat} {W W2 : List VA} (h : CVW I y v W) (h2 : CVW I y v2 W2) (e : v2 = v + W.length) : CVW I y v (W ++ W2) := by
  subst e
  exact app_get (P := fun (i : Nat) (w : VA) => (I (y + 9) (v + i)).toInt = (w.2.1 : Int) ∧ (I (y + 10) (v + i)).toInt = w.2.2) h (fun i w hi => by rw [← Nat.add_assoc]; exact h2 i w hi)
theorem WQ_t {ln lm n t v : Nat} {S : List SP} {U : List TE} {W : List VA} (h : WQ ln lm n t v S U W) {i : Nat} {e : SP} (he : S[i]? = some e) (h8 : 8 ≤ e.1) : t ≤ e.2.2.1 ∧ e.2.2.1 < t + U.length := (h.1 i e he).2.2.2.2.1 h8
theorem CPR_app {I : jx_I} {y ln lm n t v n2 t2 v2 q q2 : Nat} {S S2 : List SP} {U U2 : List TE} {W W2 : List VA} (h : CPR I y n t v (S, U, W, q)) (hw : WQ ln lm n t v S U W) (h2 : CPR I y n2 t2 v2 (S2, U2, W2, q2)) (hw2 : WQ ln lm n2 t2 v2 S2 U2 W2) (en : n2 = n + S.length) (et : t2 = t + U.length) (ev : v2 = v + W.length) : CPR I y n t v (S ++ S2, U ++ U2, W ++ W2, q2) := by
  subst en; subst et
  refine ⟨fun i e he => ?_, CVW_app h.2 h2.2 ev⟩
  replace he : (S ++ S2)[i]? = some e := he
  rcases Nat.lt_or_ge i S.length with c | c
  · rw [List.getElem?_append_left c] at he
    refine ⟨(h.1 i e he).1, fun h8 te hte => ?_⟩
    have ht := WQ_t hw he h8
    replace hte : (U ++ U2)[e.2.2.1 - t]? = some te := hte
    rw [List.getElem?_append_left (by omega)] at hte
    exact CT1_l ((h.1 i e he).2 h8 te hte) (hw.2.1 te (List.mem_of_getElem? hte)).2.2.2.1
  · rw [List.getElem?_append_right c] at he
    have hh := h2.1 _ e he
    rw [show n + S.length + (i - S.length) = n + i by omega] at hh
    refine ⟨hh.1, fun h8 te hte => ?_⟩
    have ht := WQ_t hw2 he h8
    replace hte : (U ++ U2)[e.2.2.1 - t]? = some te := hte
    rw [List.getElem?_append_right (by omega), show e.2.2.1 - t - U.length = e.2.2.1 - (t + U.length) by omega] at hte
    exact CT1_r (hh.2 h8 te hte) ev (hw2.2.1 te (List.mem_of_getElem? hte)).1
theorem CPR_cons {I : jx_I} {y ln lm n t v n2 t2 v2 q q2 : Nat} {e : SP} {S2 : List SP} {U U2 : List TE} {W W2 : List VA} (h1 : CS1 I y n e) (ht : 8 ≤ e.1 → e.2.2.1 = t ∧ U ≠ []) (hU : ∀ te, U[0]? = some te → CT1 I y n v te W ∧ te.2.2.2 ≤ v + W.length) (hW : CVW I y v W) (h2 : CPR I y n2 t2 v2 (S2, U2, W2, q2)) (hw2 : WQ ln lm n2 t2 v2 S2 U2 W2) (en : n2 = n + 1) (et : t2 = t + U.length) (ev : v2 = v + W.length) : CPR I y n t v (e :: S2, U ++ U2, W ++ W2, q) := by
  subst en; subst et
  refine ⟨fun i x hx => ?_, CVW_app hW h2.2 ev⟩
  cases i with
  | zero =>
    cases hx
    refine ⟨h1, fun h8 te hte => ?_⟩
    obtain ⟨e1, e2⟩ := ht h8
    replace hte : (U ++ U2)[e.2.2.1 - t]? = some te := hte
    rw [e1, Nat.sub_self, List.getElem?_append_left (List.length_pos_iff.mpr e2)] at hte
    exact CT1_l (hU te hte).1 (hU te hte).2
  | succ i =>
    have hh := h2.1 i x hx
    rw [show n + 1 + i = n + (i + 1) by omega] at hh
    refine ⟨hh.1, fun h8 te hte => ?_⟩
    have htt := WQ_t hw2 (i := i) hx h8
    replace hte : (U ++ U2)[x.2.2.1 - t]? = some te := hte
    rw [List.getElem?_append_right (by omega), show x.2.2.1 - t - U.length = x.2.2.1 - (t + U.length) by omega] at hte
    exact CT1_r (hh.2 h8 te hte) ev (hw2.2.1 te (List.mem_of_getElem? hte)).1
/-- what was read, and where the Tape stands -/
def CPO (I' : jx_I) (y tp : Nat) (T : List Int) (fd : Int) (n t v : Nat) (z : PS) : Prop := CST I' tp T fd (.ok z.2.2.2) ∧ CPR I' y n t v z ∧ (I' y 11).toInt = ((n + z.1.length : Nat) : Int) ∧ (I' y 12).toInt = ((v + z.2.2.1.length : Nat) : Int)
abbrev nxt (I : jx_I) (y : Nat) (k : Nat) : Int := (I (y + 3) k).toInt
/-- .. of a block -/
def NBB (I' : jx_I) (y n D : Nat) (z : PS) : Prop := ∀ F, z.1.length ≤ F → NBf (nxt I' y) (glk n z.1) F D n (n + z.1.length)
/-- .. of a step -/
def NBH (I' : jx_I) (y n o : Nat) (z : PS) : Prop := nxt I' y n = -1 ∧ ∃ (e : SP) (B : List SP), z.1 = e :: B ∧ n < e.2.2.2.1 ∧ e.2.2.2.1 ≤ e.2.2.2.2 ∧ e.2.2.2.2 = n + z.1.length ∧ ∀ F, B.length ≤ F → (7 ≤ e.1 → NBf (nxt I' y) (glk n z.1) F (o + 1) (n + 1) e.2.2.2.1) ∧ (e.1 = 9 → NBf (nxt I' y) (glk n z.1) F (o + 1) e.2.2.2.1 e.2.2.2.2)
/-- readSteps, readBlock, readStep with o blocks open -/
def CAns (y tp : Nat) (T : List Int) (fd : Int) (n t v : Nat) (I : jx_I) (Y : PX PS) (N : jx_I → PS → Prop) (rv : Option Value) (I' : jx_I) : Prop := (∃ r : Int, rv = some (jy r) ∧ ((r = 1 ∧ ∃ z, Y = .ok z ∧ CPO I' y tp T fd n t v z ∧ N I' z) ∨ (r = 0 ∧ ∃ e, Y = .error e ∧ CST I' tp T fd (.error e)))) ∧ FPz y tp n v I I'
def CPre (I : jx_I) (y tp ld : Nat) (T : List Int) (fd : Int) (ln lm n v s : Nat) : Prop := CST I tp T fd (.ok s) ∧ (I y 11).toInt = (n : Int) ∧ (I y 12).toInt = (v : Int) ∧ LLM I ld ln lm
def G56 (V : jx_V) (X : jx_X) (R : jx_R) (y tp ld : Nat) (T : List Int) (fd : Int) (ln lm o : Nat) : Prop := ∀ (d f n t v s : Nat) (I : jx_I) (QE : String → jx_I → Prop), CPre I y tp ld T fd ln lm n v s → (4 * n ≤ s ∧ t ≤ n ∧ 2 * v ≤ s) → T.length < f + s → 11 + 4 * (6 - o) ≤ d → jc V d 56 (0, 0) [.ref y, .ref tp, .ref ld, jy (o : Int)] X I R (CAns y tp T fd n t v I (pSteps T ln lm f o s n t v) (fun I' z => NBB I' y n o z)) QE
def G60 (V : jx_V) (X : jx_X) (R : jx_R) (y tp ld : Nat) (T : List Int) (fd : Int) (ln lm o : Nat) : Prop := ∀ (d f n t v s : Nat) (I : jx_I) (QE : String → jx_I → Prop), CPre I y tp ld T fd ln lm n v s → (4 * n ≤ s + 1 ∧ t ≤ n ∧ 2 * v ≤ s) → T.length ≤ f + s → 8 + 4 * (6 - o) ≤ d → jc V d 60 (0, 0) [.ref y, .ref tp, .ref ld, jy (o : Int)] X I R (CAns y tp T fd n t v I (pBlk T (pSteps T ln lm f) o s n t v) (fun I' z => NBB I' y n (o + 1) z)) QE
def G57 (V : jx_V) (X : jx_X) (R : jx_R) (y tp ld : Nat) (T : List Int) (fd : Int) (ln lm o : Nat) : Prop := ∀ (d f n t v s : Nat) (I : jx_I) (QE : String → jx_I → Prop), CPre I y tp ld T fd ln lm n v s → (4 * n ≤ s ∧ t ≤ n ∧ 2 * v ≤ s) → T.length ≤ f + s → 10 + 4 * (6 - o) ≤ d → jc V d 57 (0, 0) [.ref y, .ref tp, .ref ld, jy (o : Int)] X I R (CAns y tp T fd n t v I (pStep T ln lm (pSteps T ln lm f) o s n t v) (fun I' z => NBH I' y n o z)) QE
