/-! ===== the reference reads a law's unit ===== -/
/-- a row of codes -/
def LWr (I : jx_I) (q : Nat) (c : Int) : Prop := (c < 100 → (I q 0).toInt = 0 ∧ (I q 1).toInt = c) ∧ (100 ≤ c → c < 105 → (I q 0).toInt = 1 ∧ (I q 1).toInt = c - 100) ∧ (105 ≤ c → (I q 0).toInt = c - 103)
/-- the law that the reference read -/
def RLW (I : jx_I) (m : Nat) (L : List Int) : Prop := (I m 24).toInt = L.length ∧ ∀ (k : Nat) (c : Int), L[k]? = some c → LWr I (m + 666 + k) c
/-- only the law that is read changes, and where the text stands -/
def FLa (m : Nat) (I I' : jx_I) : Prop := (∀ q, q ≠ m → (q < m + 666 ∨ m + 1286 ≤ q) → I' q = I q) ∧ ∀ k, k ∉ [4, 5, 6, 24, 25] → I' m k = I m k
theorem FLa_refl {m : Nat} {I : jx_I} : FLa m I I := ⟨fun _ _ _ => rfl, fun _ _ => rfl⟩
theorem FLa_trans {m : Nat} {I I1 I2 : jx_I} (h : FLa m I I1) (h2 : FLa m I1 I2) : FLa m I I2 := ⟨fun q a b => (h2.1 q a b).trans (h.1 q a b), fun k hk => (h2.2 k hk).trans (h.2 k hk)⟩
theorem FLa_o {m : Nat} {ks : List Nat} {I I' : jx_I} (h : FO m ks I I') (hs : ∀ k ∈ ks, k ∈ [4, 5, 6, 24, 25]) : FLa m I I' := ⟨fun q a _ => h.1 q a, fun k hk => h.2 k (fun h9 => hk (hs k h9))⟩
theorem FLa_f {m k : Nat} {x : Int32} {I I' : jx_I} (h : FLa m I I') (hk : k ∈ [4, 5, 6, 24, 25]) : FLa m I (jx_u I' m k x) := ⟨fun q a b => by rw [jx_u_r _ _ _ a]; exact h.1 q a b, fun j hj => by rw [jx_u_k _ _ _ _ (by intro e; exact hj (e ▸ hk))]; exact h.2 j hj⟩
theorem RLW_o {m : Nat} {ks : List Nat} {I I' : jx_I} {L : List Int} (h : RLW I m L) (hf : FO m ks I I') (hk : 24 ∉ ks) : RLW I' m L := by
  refine ⟨by rw [hf.2 24 hk]; exact h.1, fun k c hc => ?_⟩
  have := h.2 k c hc
  unfold LWr at this ⊢
  rw [hf.1 _ (by omega)]
  exact this
theorem RLW_k {m k : Nat} {x : Int32} {I : jx_I} {L : List Int} (h : RLW I m L) (hk : k ≠ 24) : RLW (jx_u I m k x) m L := by
  refine ⟨by rw [jx_u_k _ _ _ _ (by omega)]; exact h.1, fun k c hc => ?_⟩
  have := h.2 k c hc
  unfold LWr at this ⊢
  rw [jx_u_r _ _ _ (by omega)]
  exact this
/-- what says writes for the code c -/
def cdw (c a b : Int) : Prop := (c < 100 → a = 0 ∧ b = c) ∧ (100 ≤ c → c < 105 → a = 1 ∧ b = c - 100) ∧ (105 ≤ c → a = c - 103)
theorem RLW_s {m : Nat} {I : jx_I} {L : List Int} {c a b w : Int} (h : RLW I m L) (hc : cdw c a b) (ha : -2147483648 ≤ a ∧ a < 2147483648) (hb : -2147483648 ≤ b ∧ b < 2147483648) (hl : L.length < 620) (hw : w = (L.length : Int) + 1) : RLW (jx_u (jx_u (jx_u I (m + 666 + L.length) 0 (Int32.ofInt a)) (m + 666 + L.length) 1 (Int32.ofInt b)) m 24 (Int32.ofInt w)) m (L ++ [c]) := by
  subst hw
  refine ⟨?_, fun k x hk => ?_⟩
  · rw [jx_u_s, List.length_append]; exact jy_toInt (by show _ ∧ (L.length : Int) + 1 < _; omega)
  · rcases Nat.lt_or_ge k L.length with g | g
    · rw [List.getElem?_append_left g] at hk
      have := h.2 k x hk
      unfold LWr at this ⊢
      rw [jx_u_r _ _ _ (by omega), jx_u_r _ _ _ (by omega), jx_u_r _ _ _ (by omega)]
      exact this
    · rw [List.getElem?_append_right g] at hk
      obtain ⟨j, hj⟩ : ∃ j, k - L.length = j := ⟨_, rfl⟩
      rw [hj] at hk
      cases j with
      | zero =>
        cases hk
        rw [show k = L.length by omega]
        have h0 : (jx_u (jx_u (jx_u I (m + 666 + L.length) 0 (Int32.ofInt a)) (m + 666 + L.length) 1 (Int32.ofInt b)) m 24 (Int32.ofInt ((L.length : Int) + 1)) (m + 666 + L.length) 0).toInt = a := by rw [jx_u_r _ _ _ (by omega), jx_u_k _ _ _ _ (by omega), jx_u_s]; exact jy_toInt ha
        have h1 : (jx_u (jx_u (jx_u I (m + 666 + L.length) 0 (Int32.ofInt a)) (m + 666 + L.length) 1 (Int32.ofInt b)) m 24 (Int32.ofInt ((L.length : Int) + 1)) (m + 666 + L.length) 1).toInt = b := by rw [jx_u_r _ _ _ (by omega), jx_u_s]; exact jy_toInt hb
        unfold LWr
        rw [h0, h1]
        exact hc
      | succ j => cases hk
/-- the reference read codes behind L -/
def REL (I : jx_I) (m : Nat) (T : List Int) (o : Nat) (L : List Int) : PF → Prop
  | .ok r => ROK I m T r.2 ∧ RLW I m (L ++ r.1) ∧ (I m 25).toInt = (o : Int)
  | .error e => RER I m T e
theorem REL_r {I : jx_I} {m : Nat} {T : List Int} {o : Nat} {L : List Int} {y : PF} (h : REL I m T o L y) : RST I m T (y.bind (fun r => .ok r.2)) := by
  cases y with
  | error e => exact h
  | ok r => exact h.1
/-- GrievingCamelsModel.says -/
theorem cz_224 {V : jx_V} (hV : V.1.stackTraces = false) {X : jx_X} {R : jx_R} {I : jx_I} {a0 : Nat} {a1 : Int} {a2 : Int} {T : List Int} {x : PX Nat} {L : List Int} {c : Int}
    (hM : MX X R a0) (hx : RST I a0 T x) (hL : ∀ s, x = .ok s → RLW I a0 L ∧ L.length < 620) (hc : cdw c a1 a2) (r_a1 : -2147483648 ≤ a1 ∧ a1 < 2147483648) (r_a2 : -2147483648 ≤ a2 ∧ a2 < 2147483648)
    {QE : String → jx_I → Prop} : jc V 1 224 (0, 0) [.ref a0, jy a1, jy a2] X I R (fun rv I' => rv = none ∧ RST I' a0 T x ∧ (∀ s, x = .ok s → RLW I' a0 (L ++ [c]) ∧ I' a0 25 = I a0 25) ∧ FLa a0 I I') QE := by
  refine wm_224 hV (by omega) (by omega)  ?_
  unfold wz_224
  refine ⟨s_M_0 hM, ?_⟩
  refine ⟨fun hq1 => ?_, fun hq1 => ?_⟩
  · obtain ⟨s, rfl, hok⟩ := RST_5 hx hq1
    obtain ⟨hR, hl⟩ := hL s rfl
    have h24 := hR.1
    simp only [-eq_self, h24]
    refine ⟨_, r_M_27 hM, _, ⟨s_M_665 hM, by decide⟩, by omega, _, rr_M_665 hM (by omega), ?_⟩
    try simp only [-eq_self, Int.toNat_natCast]
    refine ⟨_, ⟨sr_M_665 hM (by omega), by decide⟩, by omega, ?_⟩
    intro I12 e_I12; subst e_I12
    have h1224 : (jx_u I (a0 + 666 + L.length) (0 : Int).toNat (Int32.ofInt a1) a0 24).toInt = (L.length : Int) := by rw [jx_u_r _ _ _ (by omega)]; exact h24
    simp only [-eq_self, h1224]
    refine ⟨by omega, _, rr_M_665 hM (by omega), ?_⟩
    try simp only [-eq_self, Int.toNat_natCast]
    refine ⟨_, ⟨sr_M_665 hM (by omega), by decide⟩, by omega, ?_⟩
    intro I19 e_I19; subst e_I19
    have h1924 : (jx_u (jx_u I (a0 + 666 + L.length) (0 : Int).toNat (Int32.ofInt a1)) (a0 + 666 + L.length) (1 : Int).toNat (Int32.ofInt a2) a0 24).toInt = (L.length : Int) := by rw [jx_u_r _ _ _ (by omega)]; exact h1224
    simp only [-eq_self, h1924]
    intro I20 e_I20; subst e_I20
    exact ⟨rfl, ROK_k (ROK_w (ROK_w hok (by omega)) (by omega)) (by decide), fun s2 _ => ⟨RLW_s hR hc r_a1 r_a2 hl rfl, by rw [jx_u_k _ _ _ _ (by decide), jx_u_r _ _ _ (by omega), jx_u_r _ _ _ (by omega)]⟩, FLa_f ⟨fun q a b => by rw [jx_u_r _ _ _ (by omega), jx_u_r _ _ _ (by omega)], fun k hk => by rw [jx_u_r _ _ _ (by omega), jx_u_r _ _ _ (by omega)]⟩ (by decide)⟩
  · obtain ⟨e, rfl, he⟩ := RST_5n hx hq1
    exact ⟨rfl, he, fun s h => (by cases h), FLa_refl⟩
/-- one, with x more ( that may be -/
def G227 (V : jx_V) (X : jx_X) (R : jx_R) (m : Nat) (T : List Int) (y : Nat) : Prop := ∀ (d : Nat) (x : PX Nat) (L : List Int) (I : jx_I) (QE : String → jx_I → Prop), RST I m T x → (∀ s, x = .ok s → RLW I m L ∧ L.length ≤ s ∧ (I m 25).toInt = ((6 - y : Nat) : Int)) → 6 + 3 * y ≤ d → jc V d 227 (0, 0) [.ref m] X I R (fun rv I' => rv = none ∧ REL I' m T (6 - y) L (x.bind (lUnit T (lRec T y))) ∧ FLa m I I') QE
def G226 (V : jx_V) (X : jx_X) (R : jx_R) (m : Nat) (T : List Int) (y : Nat) : Prop := ∀ (d : Nat) (x : PX Nat) (L : List Int) (I : jx_I) (QE : String → jx_I → Prop), RST I m T x → (∀ s, x = .ok s → RLW I m L ∧ L.length ≤ s ∧ (I m 25).toInt = ((6 - y : Nat) : Int)) → 7 + 3 * y ≤ d → jc V d 226 (0, 0) [.ref m] X I R (fun rv I' => rv = none ∧ REL I' m T (6 - y) L (x.bind (lPro T (lRec T y))) ∧ FLa m I I') QE
def G225 (V : jx_V) (X : jx_X) (R : jx_R) (m : Nat) (T : List Int) (y : Nat) : Prop := ∀ (d : Nat) (x : PX Nat) (L : List Int) (I : jx_I) (QE : String → jx_I → Prop), RST I m T x → (∀ s, x = .ok s → RLW I m L ∧ L.length ≤ s ∧ (I m 25).toInt = ((6 - y : Nat) : Int)) → 8 + 3 * y ≤ d → jc V d 225 (0, 0) [.ref m] X I R (fun rv I' => rv = none ∧ REL I' m T (6 - y) L (x.bind (lS T y)) ∧ FLa m I I') QE
theorem lUnit_p {T : List Int} {rec : Option (Nat → PF)} {p : Nat} (h : tat T p = 40) : lUnit T rec p = lPar T rec p := if_pos h
theorem lUnit_n {T : List Int} {rec : Option (Nat → PF)} {p : Nat} (h : tat T p ≠ 40) (h2 : kul (wrd T p) = -1) : lUnit T rec p = (pNum T 0 99 p).bind (fun r => .ok ([r.1], r.2)) := by unfold lUnit; rw [if_neg h, if_pos h2]
theorem lUnit_w {T : List Int} {rec : Option (Nat → PF)} {p : Nat} (h : tat T p ≠ 40) (h2 : kul (wrd T p) ≠ -1) : lUnit T rec p = .ok ([100 + kul (wrd T p)], skB T (p + (wrd T p).length)) := by unfold lUnit; rw [if_neg h, if_neg h2]
