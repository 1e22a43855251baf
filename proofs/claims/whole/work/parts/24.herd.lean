/-! ===== griefs: what a coming does; classes Herd and Land (what is asked of it) ===== -/
abbrev GT : Type := Nat → Nat → Int
/-- a Herd holds griefs and depths, by place and camel -/
def HD (I : jx_I) (a : Nat) (g d : GT) : Prop := ∀ p c, p < 10 → c < 8 → (I (a + 1) (p * 8 + c)).toInt = g p c ∧ (I (a + 2) (p * 8 + c)).toInt = d p c
def GD (g d : GT) : Prop := ∀ p c, p < 10 → c < 8 → (0 ≤ g p c ∧ g p c ≤ 20) ∧ (0 ≤ d p c ∧ d p c ≤ 20)
theorem HD_of {I I' : jx_I} {a : Nat} {g d : GT} (h : HD I a g d) (e1 : I' (a + 1) = I (a + 1)) (e2 : I' (a + 2) = I (a + 2)) : HD I' a g d := by
  unfold HD
  rw [e1, e2]
  exact h
theorem HD_fr {I I' : jx_I} {a lo hi : Nat} {g d : GT} (h : HD I a g d) (hf : FR lo hi I I') (ho : a + 2 < lo ∨ hi ≤ a) : HD I' a g d := HD_of h (hf _ (by omega)) (hf _ (by omega))
theorem HD_eq {I : jx_I} {a : Nat} {g d g' d' : GT} (h : HD I a g d) (e : ∀ p c, p < 10 → c < 8 → g' p c = g p c ∧ d' p c = d p c) : HD I a g' d' := fun p c hp hc => by
  rw [(e p c hp hc).1, (e p c hp hc).2]
  exact h p c hp hc
def gu (g : GT) (p c : Nat) (v : Int) : GT := fun q e => if q = p ∧ e = c then v else g q e
theorem HD_ug {I : jx_I} {a p c k : Nat} {g d : GT} {v : Int} (h : HD I a g d) (hk : k = p * 8 + c) (hc : c < 8) (hv : -2147483648 ≤ v ∧ v < 2147483648) : HD (jx_u I (a + 1) k (Int32.ofInt v)) a (gu g p c v) d := by
  intro q e hq he
  subst hk
  refine ⟨?_, by rw [jx_u_a _ _ _ _ (by omega)]; exact (h q e hq he).2⟩
  unfold gu
  by_cases h1 : q = p ∧ e = c
  · rw [if_pos h1, h1.1, h1.2, jx_u_s]; exact jy_toInt hv
  · rw [if_neg h1, jx_u_k _ _ _ _ (by omega)]; exact (h q e hq he).1
theorem HD_ud {I : jx_I} {a p c k : Nat} {g d : GT} {v : Int} (h : HD I a g d) (hk : k = p * 8 + c) (hc : c < 8) (hv : -2147483648 ≤ v ∧ v < 2147483648) : HD (jx_u I (a + 2) k (Int32.ofInt v)) a g (gu d p c v) := by
  intro q e hq he
  subst hk
  refine ⟨by rw [jx_u_a _ _ _ _ (by omega)]; exact (h q e hq he).1, ?_⟩
  unfold gu
  by_cases h1 : q = p ∧ e = c
  · rw [if_pos h1, h1.1, h1.2, jx_u_s]; exact jy_toInt hv
  · rw [if_neg h1, jx_u_k _ _ _ _ (by omega)]; exact (h q e hq he).2
/-- what calves learn: those of Lc whose mother is in L -/
def tg (mo : Nat → Int) (Lc L : List Nat) (p : Nat) (g : GT) : GT := fun q c => if q = p ∧ c ∈ Lc ∧ 0 ≤ mo c ∧ (mo c).toNat ∈ L ∧ g p c < g p (mo c).toNat / 2 then g p (mo c).toNat / 2 else g q c
def td (mo : Nat → Int) (Lc L : List Nat) (p : Nat) (g d : GT) : GT := fun q c => if q = p ∧ c ∈ Lc ∧ 0 ≤ mo c ∧ (mo c).toNat ∈ L ∧ g p c < g p (mo c).toNat / 2 then max (d q c) (g p (mo c).toNat / 2) else d q c
def fod (L : List Nat) (g : GT) : GT := fun q c => if c ∈ L then max 0 (g q c - 1) else g q c
def slt (L : List Nat) (g d : GT) : GT := fun q c => if c ∈ L ∧ 0 < g q c ∧ g q c < d q c then g q c + 1 else g q c
/-- griefs and depths behind a halt in p, of kind k -/
def cmg (k : Int) (mo : Nat → Int) (L : List Nat) (p : Nat) (g d : GT) : GT := if k = 1 then fod L (tg mo L L p g) else if k = 2 then slt L (tg mo L L p g) (td mo L L p g d) else tg mo L L p g
def cmd (mo : Nat → Int) (L : List Nat) (p : Nat) (g d : GT) : GT := td mo L L p g d
theorem GD_t {mo : Nat → Int} {Lc L : List Nat} {p : Nat} {g d : GT} (h : GD g d) (hp : p < 10) (hL : ∀ c ∈ L, c < 8) : GD (tg mo Lc L p g) (td mo Lc L p g d) := by
  intro q c hq hc
  unfold tg td
  have h1 := h q c hq hc
  split
  · rename_i h2
    have h3 := h p (mo c).toNat hp (hL _ h2.2.2.2.1)
    omega
  · exact h1
theorem GD_c {k : Int} {mo : Nat → Int} {L : List Nat} {p : Nat} {g d : GT} (h : GD g d) (hp : p < 10) (hL : ∀ c ∈ L, c < 8) : GD (cmg k mo L p g d) (cmd mo L p g d) := by
  have h1 : GD (tg mo L L p g) (td mo L L p g d) := GD_t h hp hL
  unfold cmg cmd
  generalize tg mo L L p g = g1 at h1
  generalize td mo L L p g d = d1 at h1
  intro q c hq hc
  have h2 := h1 q c hq hc
  split
  · unfold fod; split <;> omega
  · split
    · unfold slt; split <;> omega
    · exact h2
theorem jz_div2 {x : Int} (h : 0 ≤ x ∧ x < 2147483648) : (Int32.ofInt x / Int32.ofInt 2).toInt = x / 2 := by
  obtain ⟨n, rfl⟩ := Int.eq_ofNat_of_zero_le h.1
  rw [jz_ofI, show (Int32.ofInt 2) = nI 2 from rfl, pk_div (by omega) (by omega) (by omega), nI_toInt (by omega)]
  omega
abbrev LT : Type := (Nat × Nat) × (Nat → Int) × (Nat → Nat → Int) × (Nat → Int) × (Nat → Int) × (Nat → Nat) × List Int
/-- places, camels, kinds, roads, prices, mothers, quarrels, law -/
abbrev Ln (l : LT) : Nat := l.1.1
abbrev Lm (l : LT) : Nat := l.1.2
abbrev Lk (l : LT) : Nat → Int := l.2.1
abbrev Lr (l : LT) : Nat → Nat → Int := l.2.2.1
abbrev Lp (l : LT) : Nat → Int := l.2.2.2.1
abbrev Lo (l : LT) : Nat → Int := l.2.2.2.2.1
abbrev Lf (l : LT) : Nat → Nat := l.2.2.2.2.2.1
abbrev Lc (l : LT) : List Int := l.2.2.2.2.2.2
/-- a Land object holds a land -/
def LD (I : jx_I) (a : Nat) (l : LT) : Prop := ((I a 7).toInt = Ln l ∧ (I a 8).toInt = Lm l) ∧ (∀ p, p < Ln l → (I (a + 1) p).toInt = Lk l p) ∧ (∀ p q, p < Ln l → q < Ln l → (I (a + 2) (p * 10 + q)).toInt = Lr l p q) ∧ (∀ c, c < Lm l → (I (a + 3) c).toInt = Lp l c ∧ (I (a + 4) c).toInt = Lo l c ∧ (I (a + 5) c).toInt = (Lf l c : Int)) ∧ (0 < Ln l ∨ 0 < Lm l → LW I (a + 7) (Lc l))
def WT (l : LT) : Prop := (Ln l ≤ 10 ∧ Lm l ≤ 8) ∧ (∀ p, p < Ln l → 0 ≤ Lk l p ∧ Lk l p ≤ 3) ∧ (∀ p q, p < Ln l → q < Ln l → (0 ≤ Lr l p q ∧ Lr l p q ≤ 24) ∧ Lr l p q = Lr l q p ∧ Lr l p p = 0) ∧ (∀ c, c < Lm l → (0 ≤ Lp l c ∧ Lp l c ≤ 99) ∧ (Lo l c = -1 ∨ (0 ≤ Lo l c ∧ Lo l c < Lm l)) ∧ Lf l c < 256) ∧ (∀ c e, c < Lm l → e < Lm l → bN (Lf l c) e = bN (Lf l e) c) ∧ WL (Lc l)
theorem LD_of {I I' : jx_I} {a : Nat} {l : LT} (h : LD I a l) (e : ∀ q, a ≤ q → q < a + 9 → I' q = I q) : LD I' a l := by
  unfold LD LW
  rw [e a (by omega) (by omega), e (a + 1) (by omega) (by omega), e (a + 2) (by omega) (by omega), e (a + 3) (by omega) (by omega), e (a + 4) (by omega) (by omega), e (a + 5) (by omega) (by omega), e (a + 7) (by omega) (by omega), e (a + 7 + 1) (by omega) (by omega)]
  exact h
theorem LD_fr {I I' : jx_I} {a lo hi : Nat} {l : LT} (h : LD I a l) (hf : FR lo hi I I') (ho : a + 9 ≤ lo ∨ hi ≤ a) : LD I' a l := LD_of h (fun q h1 h2 => hf q (by omega))
def nd (k : Int) : Int := if k = 3 then 3 else 1
/-- hours of a way's roads -/
def rsum (r : Nat → Nat → Int) : List Nat → Int
  | a :: b :: l => r a b + rsum r (b :: l)
  | _ => 0
/-- are all joined? -/
def rjoin (r : Nat → Nat → Int) : List Nat → Bool
  | a :: b :: l => decide (r a b ≠ 0) && rjoin r (b :: l)
  | _ => true
/-- GrievingCamels$Herd.copyFrom -/
theorem cz_9 {V : jx_V} (hV : V.1.stackTraces = false) {X : jx_X} {R : jx_R} {I : jx_I} {a0 : Nat} {a1 : Nat} {g d : GT}
    (hh : BX X R a0 THerd) (h2 : BX X R a1 THerd) (hd : a1 = a0 ∨ a0 + 3 ≤ a1 ∨ a1 + 3 ≤ a0) (hH : HD I a1 g d)
    {QE : String → jx_I → Prop} : jc V 1 9 (0, 0) [.ref a0, .ref a1] X I R (fun rv I' => rv = none ∧ HD I' a0 g d ∧ FR (a0 + 1) (a0 + 3) I I') QE := by
  refine wm_9 hV   ?_
  unfold wz_9
  refine ⟨s_Herd_0 h2, _, r_Herd_0_0 h2, s_Herd_0 hh, _, r_Herd_0_0 hh, _, ⟨s_Herd_1 h2, by decide⟩, _, ⟨s_Herd_1 hh, by decide⟩, by omega, ?_⟩
  intro I12 e_I12; subst e_I12
  refine ⟨_, r_Herd_0_1 h2, _, r_Herd_0_1 hh, _, ⟨s_Herd_2 h2, by decide⟩, _, ⟨s_Herd_2 hh, by decide⟩, by omega, ?_⟩
  intro I22 e_I22; subst e_I22
  refine ⟨rfl, ?_, FR_cp (FR_cp FR_refl (by omega) (by omega)) (by omega) (by omega)⟩
  intro p c hp hc
  have h := hH p c hp hc
  unfold jx_cp
  constructor
  · rw [if_neg (by omega), if_pos (by refine ⟨rfl, ?_, ?_⟩ <;> simp <;> omega), ← h.1]
    simp
  · rw [if_pos (by refine ⟨rfl, ?_, ?_⟩ <;> simp <;> omega), if_neg (by omega), ← h.2]
    simp
/-- GrievingCamels$Herd.beginIn -/
theorem cz_10 {V : jx_V} (hV : V.1.stackTraces = false) {X : jx_X} {R : jx_R} {I : jx_I} {a0 : Nat} {a1 : Nat} {g : GT}
    (hh : BX X R a0 THerd) (h2 : BX X R a1 TLand) (hd : a0 + 3 ≤ a1 ∨ a1 + 11 ≤ a0) (hu : ∀ p c, p < 10 → c < 8 → (I (a1 + 6) (p * 8 + c)).toInt = g p c)
    {QE : String → jx_I → Prop} : jc V 1 10 (0, 0) [.ref a0, .ref a1] X I R (fun rv I' => rv = none ∧ HD I' a0 g g ∧ FR (a0 + 1) (a0 + 3) I I') QE := by
  refine wm_10 hV   ?_
  unfold wz_10
  refine ⟨s_Land_0 h2, _, r_Land_0_5 h2, s_Herd_0 hh, _, r_Herd_0_0 hh, _, ⟨s_Land_6 h2, by decide⟩, _, ⟨s_Herd_1 hh, by decide⟩, by omega, ?_⟩
  intro I12 e_I12; subst e_I12
  refine ⟨_, r_Herd_0_1 hh, _, ⟨s_Herd_2 hh, by decide⟩, by omega, ?_⟩
  intro I18 e_I18; subst e_I18
  refine ⟨rfl, ?_, FR_cp (FR_cp FR_refl (by omega) (by omega)) (by omega) (by omega)⟩
  intro p c hp hc
  have h := hu p c hp hc
  unfold jx_cp
  constructor
  · rw [if_neg (by omega), if_pos (by refine ⟨rfl, ?_, ?_⟩ <;> simp <;> omega), ← h]
    simp
  · rw [if_pos (by refine ⟨rfl, ?_, ?_⟩ <;> simp <;> omega), if_neg (by omega), ← h]
    simp
/-- GrievingCamels$Herd.griefAt -/
theorem cz_11 {V : jx_V} (hV : V.1.stackTraces = false) {X : jx_X} {R : jx_R} {I : jx_I} {a0 : Nat} {a1 : Int} {a2 : Int} {g d : GT} {p c : Nat}
    (hh : BX X R a0 THerd) (hH : HD I a0 g d) (h1 : a1 = (p : Int)) (h2 : a2 = (c : Int)) (hp : p < 10) (hc : c < 8)
    {QE : String → jx_I → Prop} : jc V 1 11 (0, 0) [.ref a0, jy a1, jy a2] X I R (fun rv I' => rv = some (jy (g p c)) ∧ I' = I) QE := by
  refine wm_11 hV (by omega) (by omega)  ?_
  unfold wz_11
  refine ⟨s_Herd_0 hh, _, r_Herd_0_0 hh, _, ⟨s_Herd_1 hh, by decide⟩, by omega, ?_⟩
  have hix : ((a1 * 8) + a2).toNat = p * 8 + c := by omega
  exact ⟨by rw [hix, (hH p c hp hc).1], rfl⟩
/-- GrievingCamels$Herd.depthAt -/
theorem cz_12 {V : jx_V} (hV : V.1.stackTraces = false) {X : jx_X} {R : jx_R} {I : jx_I} {a0 : Nat} {a1 : Int} {a2 : Int} {g d : GT} {p c : Nat}
    (hh : BX X R a0 THerd) (hH : HD I a0 g d) (h1 : a1 = (p : Int)) (h2 : a2 = (c : Int)) (hp : p < 10) (hc : c < 8)
    {QE : String → jx_I → Prop} : jc V 1 12 (0, 0) [.ref a0, jy a1, jy a2] X I R (fun rv I' => rv = some (jy (d p c)) ∧ I' = I) QE := by
  refine wm_12 hV (by omega) (by omega)  ?_
  unfold wz_12
  refine ⟨s_Herd_0 hh, _, r_Herd_0_1 hh, _, ⟨s_Herd_2 hh, by decide⟩, by omega, ?_⟩
  have hix : ((a1 * 8) + a2).toNat = p * 8 + c := by omega
  exact ⟨by rw [hix, (hH p c hp hc).2], rfl⟩
/-- GrievingCamels$Herd.suffer -/
theorem cz_13 {V : jx_V} (hV : V.1.stackTraces = false) {X : jx_X} {R : jx_R} {I : jx_I} {a0 : Nat} {a1 : Int} {a2 : Int} {a3 : Int} {g d : GT} {p c : Nat}
    (hh : BX X R a0 THerd) (hH : HD I a0 g d) (hG : GD g d) (h1 : a1 = (p : Int)) (h2 : a2 = (c : Int)) (hp : p < 10) (hc : c < 8) (h3 : 1 ≤ a3 ∧ a3 ≤ 20)
    {QE : String → jx_I → Prop} : jc V 2 13 (0, 0) [.ref a0, jy a1, jy a2, jy a3] X I R (fun rv I' => rv = none ∧ HD I' a0 (gu g p c (min 20 (g p c + a3))) (gu d p c (min 20 (d p c + a3))) ∧ FR (a0 + 1) (a0 + 3) I I') QE := by
  refine wm_13 hV (by omega) (by omega) (by omega)  ?_
  have hix : ((a1 * 8) + a2).toNat = p * 8 + c := by omega
  have hb := hG p c hp hc
  have hv := hH p c hp hc
  unfold wz_13
  refine ⟨s_Herd_0 hh, _, r_Herd_0_0 hh, _, ⟨s_Herd_1 hh, by decide⟩, ?_⟩
  try simp only [-eq_self, hix, hv.1]
  refine ⟨by omega, ?_⟩
  refine ⟨_, cz_329 hV (by omega) (by omega), ?_⟩
  rintro _ I9 ⟨rfl, e9⟩; replace e9 := e9.symm; subst e9
  refine ⟨_, rfl, ?_⟩
  refine ⟨by omega, ?_⟩
  intro I12 e_I12; subst e_I12
  refine ⟨_, r_Herd_0_1 hh, _, ⟨s_Herd_2 hh, by decide⟩, ?_⟩
  have e8 : (jx_u I (a0 + 1) (p * 8 + c) (Int32.ofInt (min 20 (g p c + a3))) (a0 + 2) (p * 8 + c)).toInt = d p c := by rw [jx_u_a _ _ _ _ (by omega), hv.2]
  try simp only [-eq_self, e8]
  refine ⟨by omega, ?_⟩
  refine ⟨_, cz_329 hV (by omega) (by omega), ?_⟩
  rintro _ I20 ⟨rfl, e9⟩; replace e9 := e9.symm; subst e9
  refine ⟨_, rfl, ?_⟩
  refine ⟨by omega, ?_⟩
  intro I23 e_I23; subst e_I23
  exact ⟨by trivial, HD_ud (HD_ug hH rfl hc (by omega)) rfl hc (by omega), FR_u (FR_u FR_refl (by omega) (by omega)) (by omega) (by omega)⟩
/-- GrievingCamels$Herd.comfort -/
theorem cz_14 {V : jx_V} (hV : V.1.stackTraces = false) {X : jx_X} {R : jx_R} {I : jx_I} {a0 : Nat} {a1 : Int} {a2 : Int} {g d : GT} {p c : Nat}
    (hh : BX X R a0 THerd) (hH : HD I a0 g d) (h1 : a1 = (p : Int)) (h2 : a2 = (c : Int)) (hp : p < 10) (hc : c < 8)
    {QE : String → jx_I → Prop} : jc V 1 14 (0, 0) [.ref a0, jy a1, jy a2] X I R (fun rv I' => rv = none ∧ HD I' a0 (gu g p c 0) d ∧ FR (a0 + 1) (a0 + 2) I I') QE := by
  refine wm_14 hV (by omega) (by omega)  ?_
  unfold wz_14
  refine ⟨s_Herd_0 hh, _, r_Herd_0_0 hh, _, ⟨s_Herd_1 hh, by decide⟩, by omega, ?_⟩
  intro I7 e_I7; subst e_I7
  exact ⟨rfl, HD_ug hH (by omega) hc (by omega), FR_u FR_refl (by omega) (by omega)⟩
/-- GrievingCamels$Herd.healAt -/
theorem cz_15 {V : jx_V} (hV : V.1.stackTraces = false) {X : jx_X} {R : jx_R} {I : jx_I} {a0 : Nat} {a1 : Int} {g d : GT} {p : Nat}
    (hh : BX X R a0 THerd) (hH : HD I a0 g d) (h1 : a1 = (p : Int)) (hp : p < 10)
    {QE : String → jx_I → Prop} : jc V 2 15 (0, 0) [.ref a0, jy a1] X I R (fun rv I' => rv = none ∧ HD I' a0 (fun q c => if q = p then 0 else g q c) d ∧ FR (a0 + 1) (a0 + 2) I I') QE := by
  refine wm_15 hV (by omega)  (fun J2 hJJ => ?_)
  have hJ2 := hJJ
  unfold wz_15
  have L2 : ∀ (n2 : Nat) (l2 : Int) (K : jx_I), n2 = ((8 : Int) - l2).toNat → (∃ i : Nat, l2 = i ∧ i ≤ 8 ∧ HD K a0 (fun q c => if q = p ∧ c < i then 0 else g q c) d ∧ FR (a0 + 1) (a0 + 2) I K) → J2 l2 K := by
    intro n2
    induction n2 using Nat.strongRecOn with
    | ind n2 ih2 =>
    intro l2 K hn2 hI2
    obtain ⟨i, rfl, hi, hK, hF⟩ := hI2
    refine hJ2 _ _ ?_
    unfold wz_15_2
    refine ⟨by omega, ?_⟩
    refine ⟨fun hq1 => ?_, fun hq1 => ?_⟩
    · exact ⟨rfl, HD_eq hK (fun q c _ hc => ⟨by by_cases e : q = p <;> simp [e]; omega, rfl⟩), hF⟩
    · refine ⟨s_Herd_0 hh, ?_⟩
      refine ⟨_, cz_14 hV hh hK h1 rfl hp (by omega), ?_⟩
      rintro _ I5 ⟨rfl, hK2, hF2⟩
      refine ⟨rfl, ?_⟩
      exact ih2 _ (by omega) _ _ rfl (⟨i + 1, by omega, by omega, HD_eq hK2 (fun q c _ _ => ⟨by unfold gu; by_cases e : q = p <;> by_cases e2 : c = i <;> by_cases e3 : c < i <;> simp [e, e2, e3] <;> omega, rfl⟩), FR_trans hF hF2⟩)
  exact L2 _ _ _ rfl (⟨0, rfl, by omega, HD_eq hH (fun q c _ _ => ⟨by simp, rfl⟩), FR_refl⟩)
theorem tg_skip {mo : Nat → Int} {Lc L : List Nat} {p y : Nat} {g : GT} (h : ¬ (0 ≤ mo y ∧ (mo y).toNat ∈ L ∧ g p y < g p (mo y).toNat / 2)) : tg mo (Lc ++ [y]) L p g = tg mo Lc L p g := by
  funext q c
  simp only [tg]
  by_cases e : c = y
  · subst e
    rw [if_neg (fun k => h k.2.2), if_neg (fun k => h k.2.2)]
  · simp [e]
theorem td_skip {mo : Nat → Int} {Lc L : List Nat} {p y : Nat} {g d : GT} (h : ¬ (0 ≤ mo y ∧ (mo y).toNat ∈ L ∧ g p y < g p (mo y).toNat / 2)) : td mo (Lc ++ [y]) L p g d = td mo Lc L p g d := by
  funext q c
  simp only [td]
  by_cases e : c = y
  · subst e
    rw [if_neg (fun k => h k.2.2), if_neg (fun k => h k.2.2)]
  · simp [e]
theorem tg_add {mo : Nat → Int} {Lc L : List Nat} {p y : Nat} {g : GT} (h : 0 ≤ mo y ∧ (mo y).toNat ∈ L ∧ g p y < g p (mo y).toNat / 2) : tg mo (Lc ++ [y]) L p g = gu (tg mo Lc L p g) p y (g p (mo y).toNat / 2) := by
  funext q c
  simp only [tg, gu]
  by_cases e : q = p ∧ c = y
  · rw [if_pos e, if_pos ⟨e.1, by simp [e.2], by rw [e.2]; exact h⟩, e.2]
  · rw [if_neg e]
    by_cases e2 : c = y
    · rw [if_neg (fun k => e ⟨k.1, e2⟩), if_neg (fun k => e ⟨k.1, e2⟩)]
    · simp [e2]
theorem td_add {mo : Nat → Int} {Lc L : List Nat} {p y : Nat} {g d : GT} (hy : y ∉ Lc) (h : 0 ≤ mo y ∧ (mo y).toNat ∈ L ∧ g p y < g p (mo y).toNat / 2) : td mo (Lc ++ [y]) L p g d = gu (td mo Lc L p g d) p y (max (td mo Lc L p g d p y) (g p (mo y).toNat / 2)) := by
  have e0 : td mo Lc L p g d p y = d p y := by unfold td; rw [if_neg (fun k => hy k.2.1)]
  rw [e0]
  funext q c
  simp only [td, gu]
  by_cases e : q = p ∧ c = y
  · rw [if_pos e, if_pos ⟨e.1, by simp [e.2], by rw [e.2]; exact h⟩, e.2, e.1]
  · rw [if_neg e]
    by_cases e2 : c = y
    · rw [if_neg (fun k => e ⟨k.1, e2⟩), if_neg (fun k => e ⟨k.1, e2⟩)]
    · simp [e2]
theorem gu_same {g : GT} {p c : Nat} {v : Int} (h : g p c = v) : gu g p c v = g := by
  funext q e
  unfold gu
  by_cases k : q = p ∧ e = c
  · rw [if_pos k, k.1, k.2, h]
  · rw [if_neg k]
/-- a map of the row's cells under way: places below p, and of p the first i of the row -/
def mp (f : GT) (L : List Nat) (p i : Nat) (g : GT) : GT := fun q c => if c ∈ L ∧ (q < p ∨ (q = p ∧ c ∈ L.take i)) then f q c else g q c
theorem nd_at {L : List Nat} {i y : Nat} (hn : L.Nodup) (hy : L[i]? = some y) : y ∉ L.take i := by
  intro h
  obtain ⟨k, hk, e⟩ := List.mem_iff_getElem.mp h
  have hk2 : k < i := by simp at hk; omega
  have hi := (List.getElem?_eq_some_iff.mp hy)
  obtain ⟨hi, e2⟩ := hi
  have e3 : L[k]'(by omega) = y := by rw [← e]; simp
  exact List.pairwise_iff_getElem.mp hn k i (by omega) hi hk2 (by rw [e3, e2])
theorem mp_at {f g : GT} {L : List Nat} {p i y : Nat} (hn : L.Nodup) (hy : L[i]? = some y) : mp f L p i g p y = g p y := by
  unfold mp
  rw [if_neg]
  rintro ⟨_, h | h⟩
  · omega
  · exact nd_at hn hy h.2
theorem mp_step {f g : GT} {L : List Nat} {p i y : Nat} (hy : L[i]? = some y) : mp f L p (i + 1) g = gu (mp f L p i g) p y (f p y) := by
  have hm : y ∈ L := List.mem_of_getElem? hy
  funext q c
  unfold mp gu
  rw [ls_last hy]
  by_cases e : q = p ∧ c = y
  · rw [if_pos e, e.1, e.2, if_pos ⟨hm, Or.inr ⟨rfl, by simp⟩⟩]
  · rw [if_neg e]
    by_cases e2 : c = y
    · have h1 : q ≠ p := fun h => e ⟨h, e2⟩
      simp [h1]
    · simp [e2]
theorem mp_next {f g : GT} {L : List Nat} {p i : Nat} (hi : L.length ≤ i) : mp f L p i g = mp f L (p + 1) 0 g := by
  funext q c
  unfold mp
  rw [List.take_of_length_le hi, List.take_zero]
  by_cases e : c ∈ L
  · by_cases e2 : q < p
    · rw [if_pos ⟨e, Or.inl e2⟩, if_pos ⟨e, Or.inl (by omega)⟩]
    · by_cases e3 : q = p
      · rw [if_pos ⟨e, Or.inr ⟨e3, e⟩⟩, if_pos ⟨e, Or.inl (by omega)⟩]
      · rw [if_neg (by rintro ⟨_, h | h⟩ <;> omega), if_neg (by rintro ⟨_, h | h⟩; omega; exact absurd h.2 (by simp))]
  · rw [if_neg (fun h => e h.1), if_neg (fun h => e h.1)]
theorem mp_0 {f g : GT} {L : List Nat} : mp f L 0 0 g = g := by
  funext q c
  unfold mp
  rw [if_neg]
  rintro ⟨_, h | h⟩
  · omega
  · exact absurd h.2 (by simp)
theorem mp_end {f g : GT} {L : List Nat} {n q c : Nat} (hq : q < n) : mp f L n 0 g q c = if c ∈ L then f q c else g q c := by
  unfold mp
  by_cases e : c ∈ L
  · rw [if_pos ⟨e, Or.inl hq⟩, if_pos e]
  · rw [if_neg (fun h => e h.1), if_neg e]
/-- camels of bits, by number -/
def bl (B n : Nat) : List Nat := (List.range n).filter (fun c => B.testBit c)
theorem bl_1 {B n : Nat} (h : bN B n ≠ 0) : bl B (n + 1) = bl B n ++ [n] := by
  unfold bl
  rw [List.range_succ, List.filter_append]
  have : B.testBit n = true := by rw [bN_t]; have := bN_01 B n; simp; omega
  simp [this]
theorem bl_0 {B n : Nat} (h : bN B n = 0) : bl B (n + 1) = bl B n := by
  unfold bl
  rw [List.range_succ, List.filter_append]
  have : B.testBit n = false := by rw [bN_t, h]; rfl
  simp [this]
theorem bl_mem {B n c : Nat} : c ∈ bl B n ↔ c < n ∧ bN B c = 1 := by
  unfold bl
  rw [List.mem_filter, List.mem_range, bN_t]
  simp
theorem bl_len (B n : Nat) : (bl B n).length ≤ n := by
  unfold bl
  have := List.length_filter_le (fun c => B.testBit c) (List.range n)
  simpa using this
theorem bl_nd (B n : Nat) : (bl B n).Nodup := List.Pairwise.filter _ List.nodup_range
def gmx (g : GT) (p B n : Nat) : Int := (bl B n).foldl (fun m c => max m (g p c)) 0
def wlr (g : GT) (p B : Nat) (x : Int) (n : Nat) : Int := (bl B n).foldl (fun s c => s + max 0 (x - g p c)) 0
/-- hours of the first k roads of a way -/
def rs (r : Nat → Nat → Int) (J : List Nat) : Nat → Int
  | 0 => 0
  | k + 1 => rs r J k + r (J.getD k 0) (J.getD (k + 1) 0)
def RJ (r : Nat → Nat → Int) (J : List Nat) : Prop := ∀ k, k + 1 < J.length → r (J.getD k 0) (J.getD (k + 1) 0) ≠ 0
/-- pairs next to one another that quarrel, of the first k -/
def qn (fo : Nat → Nat) (L : List Nat) : Nat → Nat
  | 0 => 0
  | k + 1 => qn fo L k + bN (fo (L.getD k 0)) (L.getD (k + 1) 0)
theorem RW_gd {I : jx_I} {a : Nat} {L : List Nat} (h : RW I a L) {i : Nat} (hi : i < L.length) : (I (a + 1) i).toInt = (L.getD i 0 : Nat) ∧ L.getD i 0 ∈ L := by
  obtain ⟨y, hy, hv⟩ := RW_get h hi
  have : L.getD i 0 = y := by rw [List.getD_eq_getElem?_getD, hy]; rfl
  rw [this]
  exact ⟨hv, List.mem_of_getElem? hy⟩
theorem rs_rng {r : Nat → Nat → Int} {J : List Nat} {b : Int} (h : ∀ k, k + 1 < J.length → 0 ≤ r (J.getD k 0) (J.getD (k + 1) 0) ∧ r (J.getD k 0) (J.getD (k + 1) 0) ≤ b) (k : Nat) (hk : k < J.length) : 0 ≤ rs r J k ∧ rs r J k ≤ b * k := by
  induction k with
  | zero => simp [rs]
  | succ k ih =>
    have h1 := ih (by omega)
    have h2 := h k hk
    unfold rs
    rw [show ((k + 1 : Nat) : Int) = (k : Int) + 1 by omega, Int.mul_add]
    omega
/-- GrievingCamels$Herd.teachCalves -/
theorem cz_17 {V : jx_V} (hV : V.1.stackTraces = false) {X : jx_X} {R : jx_R} {I : jx_I} {a0 : Nat} {a1 : Nat} {a2 : Int} {a3 : Nat} {g d : GT} {p : Nat} {L : List Nat} {mo : Nat → Int}
    (hh : BX X R a0 THerd) (hl : BX X R a1 TLand) (hr : BX X R a3 TRow) (hH : HD I a0 g d) (hG : GD g d) (h1 : a2 = (p : Int)) (hp : p < 10) (hL : RW I a3 L) (hL8 : ∀ c ∈ L, c < 8) (hnd : L.Nodup) (hmo : ∀ c ∈ L, (I (a1 + 4) c).toInt = mo c ∧ (mo c = -1 ∨ (0 ≤ mo c ∧ mo c < 8))) (d1 : a0 + 4 ≤ a1 ∨ a1 + 11 ≤ a0) (d3 : a0 + 4 ≤ a3 ∨ a3 + 2 ≤ a0)
    {QE : String → jx_I → Prop} : jc V 2 17 (0, 0) [.ref a0, .ref a1, jy a2, .ref a3] X I R (fun rv I' => rv = none ∧ HD I' a0 (tg mo L L p g) (td mo L L p g d) ∧ FR (a0 + 1) (a0 + 4) I I') QE := by
  refine wm_17 hV (by omega)  (fun J25 J136 hJJ => ?_)
  obtain ⟨hJ25, hJ136⟩ := hJJ
  unfold wz_17
  refine ⟨s_Herd_0 hh, _, r_Herd_0_0 hh, _, r_Herd_0_2 hh, _, ⟨s_Herd_1 hh, by decide⟩, _, ⟨s_Herd_3 hh, by decide⟩, by omega, ?_⟩
  intro I11 e_I11; subst e_I11
  have L25 : ∀ (n25 : Nat) (l4 : Int) (l5 : Int) (K : jx_I), n25 = ((L.length : Int) - l5).toNat → (∃ i : Nat, l5 = i ∧ i ≤ L.length ∧ l4 = (p * 8 : Nat) ∧ HD K a0 (tg mo (L.take i) L p g) (td mo (L.take i) L p g d) ∧ (∀ c, c < 8 → (K (a0 + 3) c).toInt = g p c) ∧ FR (a0 + 1) (a0 + 4) I K) → J25 l4 l5 K := by
    intro n25
    induction n25 using Nat.strongRecOn with
    | ind n25 ih25 =>
    intro l4 l5 K hn25 hI25
    obtain ⟨i, rfl, hi, rfl, hK, hM, hF⟩ := hI25
    have hLK : RW K a3 L := RW_fr hL hF (by omega)
    have hm := hLK.1
    have hn12 := hLK.2.1
    refine hJ25 _ _ _ ?_
    unfold wz_17_25
    refine ⟨s_Row_0 hr, by omega, ?_⟩
    refine ⟨fun hq1 => ?_, fun hq1 => ?_⟩
    · rw [List.take_of_length_le (by omega)] at hK
      exact ⟨rfl, hK, hF⟩
    · obtain ⟨y, hy, hy2⟩ := RW_get hLK (i := i) (by omega)
      have hym : y ∈ L := List.mem_of_getElem? hy
      have hy8 := hL8 y hym
      have hls := ls_last hy
      obtain ⟨hm1, hm2⟩ := hmo y hym
      have hm3 : (K (a1 + 4) y).toInt = mo y := by rw [hF (a1 + 4) (by omega), hm1]
      refine ⟨_, r_Row_0_0 hr, _, ⟨s_Row_1 hr, by decide⟩, ?_⟩
      try simp only [-eq_self, Int.toNat_natCast, hy2]
      refine ⟨by omega, s_Land_0 hl, _, r_Land_0_3 hl, _, ⟨s_Land_4 hl, by decide⟩, ?_⟩
      try simp only [-eq_self, Int.toNat_natCast, hm3]
      refine ⟨by omega, ?_⟩
      refine ⟨fun hq2 => ?_, fun hq2 => ?_⟩
      · exact ih25 _ (by omega) _ _ _ rfl (⟨i + 1, by omega, by omega, rfl, by rw [hls, tg_skip (by omega), td_skip (by omega)]; exact hK, hM, hF⟩)
      · have hm4 : mo y = ((mo y).toNat : Int) := by omega
        have hm8 : (mo y).toNat < 8 := by omega
        refine ⟨_, cz_72 hV hr hLK hm4 (by omega), ?_⟩
        rintro _ I27 ⟨rfl, e9⟩; replace e9 := e9.symm; subst e9
        refine ⟨_, rfl, ?_⟩
        refine ⟨by omega, ?_⟩
        refine ⟨fun hq3 => ?_, fun hq3 => ?_⟩
        · have hnm : (mo y).toNat ∉ L := fun h => by rw [if_pos h] at hq3; omega
          exact ih25 _ (by omega) _ _ _ rfl (⟨i + 1, by omega, by omega, rfl, by rw [hls, tg_skip (fun h => hnm h.2.1), td_skip (fun h => hnm h.2.1)]; exact hK, hM, hF⟩)
        · have hmm : (mo y).toNat ∈ L := by
            by_cases h : (mo y).toNat ∈ L
            · exact h
            · rw [if_neg h] at hq3; omega
          have hb := hG p (mo y).toNat hp hm8
          have hb2 := hG p y hp hy8
          have hdv := jz_div2 (x := g p (mo y).toNat) (by omega)
          have hMm := hM _ hm8
          have hMy := hM _ hy8
          refine ⟨s_Herd_0 hh, _, r_Herd_0_2 hh, _, ⟨s_Herd_3 hh, by decide⟩, ?_⟩
          try simp only [-eq_self, Int.toNat_natCast, hMm, hMy, hdv]
          refine ⟨by omega, by omega, ?_⟩
          refine ⟨fun hq4 => ?_, fun hq4 => ?_⟩
          · exact ih25 _ (by omega) _ _ _ rfl (⟨i + 1, by omega, by omega, rfl, by rw [hls, tg_skip (by omega), td_skip (by omega)]; exact hK, hM, hF⟩)
          · have hcond : 0 ≤ mo y ∧ (mo y).toNat ∈ L ∧ g p y < g p (mo y).toNat / 2 := ⟨by omega, hmm, by omega⟩
            have hix : ((p * 8 : Nat) : Int) + (y : Int) = ((p * 8 + y : Nat) : Int) := by omega
            simp only [-eq_self, hix, Int.toNat_natCast]
            have hbt := GD_t (mo := mo) (Lc := L.take i) hG hp hL8 p y hp hy8
            have htd := (hK p y hp hy8).2
            refine ⟨_, r_Herd_0_0 hh, by omega, _, ⟨s_Herd_1 hh, by decide⟩, by omega, ?_⟩
            intro I43 e_I43; subst e_I43
            refine ⟨_, r_Herd_0_1 hh, _, ⟨s_Herd_2 hh, by decide⟩, ?_⟩
            have e8 : (jx_u K (a0 + 1) (p * 8 + y) (Int32.ofInt (g p (mo y).toNat / 2)) (a0 + 3) (mo y).toNat).toInt = g p (mo y).toNat := by rw [jx_u_a _ _ _ _ (by omega), hMm]
            have e9 : (jx_u K (a0 + 1) (p * 8 + y) (Int32.ofInt (g p (mo y).toNat / 2)) (a0 + 2) (p * 8 + y)).toInt = td mo (L.take i) L p g d p y := by rw [jx_u_a _ _ _ _ (by omega), htd]
            try simp only [-eq_self, e8, e9, hdv]
            refine ⟨by omega, by omega, ?_⟩
            refine ⟨_, cz_328 hV (by omega) (by omega), ?_⟩
            rintro _ I52 ⟨rfl, e9⟩; replace e9 := e9.symm; subst e9
            refine ⟨_, rfl, ?_⟩
            refine ⟨by omega, ?_⟩
            intro I55 e_I55; subst e_I55
            refine hJ136 _ _ _ ?_
            unfold wz_17_136
            exact ih25 _ (by omega) _ _ _ rfl (⟨i + 1, by omega, by omega, rfl, by rw [hls, tg_add hcond, td_add (nd_at hnd hy) hcond]; exact HD_ud (HD_ug hK rfl hy8 (by omega)) rfl hy8 (by omega), fun c hc => by rw [jx_u_a _ _ _ _ (by omega), jx_u_a _ _ _ _ (by omega)]; exact hM c hc, FR_u (FR_u hF (by omega) (by omega)) (by omega) (by omega)⟩)
  exact L25 _ _ _ _ rfl (⟨0, rfl, by omega, by omega, HD_of (HD_eq hH (fun q c _ _ => by unfold tg td; rw [if_neg (by simp), if_neg (by simp)]; exact ⟨rfl, rfl⟩)) (by funext k; unfold jx_cp; rw [if_neg (by omega)]) (by funext k; unfold jx_cp; rw [if_neg (by omega)]), fun c hc => by
    rw [← (hH p c hp hc).1]
    unfold jx_cp
    rw [if_pos (by refine ⟨rfl, ?_, ?_⟩ <;> simp <;> omega)]
    congr 2
    simp
    omega, FR_cp FR_refl (by omega) (by omega)⟩)
/-- GrievingCamels$Herd.forgetSome -/
theorem cz_18 {V : jx_V} (hV : V.1.stackTraces = false) {X : jx_X} {R : jx_R} {I : jx_I} {a0 : Nat} {a1 : Nat} {g d : GT} {L : List Nat}
    (hh : BX X R a0 THerd) (hr : BX X R a1 TRow) (hL : RW I a1 L) (hL8 : ∀ c ∈ L, c < 8) (hnd : L.Nodup) (d1 : a0 + 4 ≤ a1 ∨ a1 + 2 ≤ a0) (hH : HD I a0 g d) (hG : GD g d)
    {QE : String → jx_I → Prop} : jc V 2 18 (0, 0) [.ref a0, .ref a1] X I R (fun rv I' => rv = none ∧ HD I' a0 (fod L g) d ∧ FR (a0 + 1) (a0 + 2) I I') QE := by
  refine wm_18 hV   (fun J2 J10 hJJ => ?_)
  obtain ⟨hJ2, hJ10⟩ := hJJ
  unfold wz_18
  have L2 : ∀ (n2 : Nat) (l2 : Int) (K : jx_I), n2 = ((10 : Int) - l2).toNat → (∃ p : Nat, l2 = p ∧ p ≤ 10 ∧ HD K a0 (mp (fun q c => max 0 (g q c - 1)) L p 0 g) d ∧ FR (a0 + 1) (a0 + 2) I K) → J2 l2 K := by
    intro n2
    induction n2 using Nat.strongRecOn with
    | ind n2 ih2 =>
    intro l2 K hn2 hI2
    obtain ⟨p, rfl, hp, hK, hF⟩ := hI2
    refine hJ2 _ _ ?_
    unfold wz_18_2
    refine ⟨by omega, ?_⟩
    refine ⟨fun hq1 => ?_, fun hq1 => ?_⟩
    · exact ⟨rfl, HD_eq hK (fun q c hq hc => ⟨by rw [show p = 10 by omega, mp_end hq]; rfl, rfl⟩), hF⟩
    · have L10 : ∀ (n10 : Nat) (l2 : Int) (l3 : Int) (K2 : jx_I), n10 = ((L.length : Int) - l3).toNat → (∃ i : Nat, l2 = (p : Int) ∧ l3 = i ∧ p < 10 ∧ i ≤ L.length ∧ HD K2 a0 (mp (fun q c => max 0 (g q c - 1)) L p i g) d ∧ FR (a0 + 1) (a0 + 2) I K2) → J10 l2 l3 K2 := by
        intro n10
        induction n10 using Nat.strongRecOn with
        | ind n10 ih10 =>
        intro l2 l3 K2 hn10 hI10
        obtain ⟨i, rfl, rfl, hp, hi, hK, hF⟩ := hI10
        have hLK : RW K2 a1 L := RW_fr hL hF (by omega)
        have hm := hLK.1
        have hn12 := hLK.2.1
        refine hJ10 _ _ _ ?_
        unfold wz_18_10
        refine ⟨s_Row_0 hr, by omega, ?_⟩
        refine ⟨fun hq2 => ?_, fun hq2 => ?_⟩
        · exact ih2 _ (by omega) _ _ rfl (⟨p + 1, by omega, by omega, by rw [← mp_next (i := i) (by omega)]; exact hK, hF⟩)
        · obtain ⟨y, hy, hy2⟩ := RW_get hLK (i := i) (by omega)
          have hym : y ∈ L := List.mem_of_getElem? hy
          have hy8 := hL8 y hym
          have hat := mp_at (f := (fun q c => max 0 (g q c - 1))) (g := g) (p := p) hnd hy
          have hix : (p : Int) * 8 + (y : Int) = ((p * 8 + y : Nat) : Int) := by omega
          have hcell := (hK p y hp hy8)
          rw [hat] at hcell
          have hb := hG p y hp hy8
          refine ⟨_, r_Row_0_0 hr, _, ⟨s_Row_1 hr, by decide⟩, ?_⟩
          try simp only [-eq_self, Int.toNat_natCast, hy2, hix]
          refine ⟨by omega, s_Herd_0 hh, _, r_Herd_0_0 hh, _, ⟨s_Herd_1 hh, by decide⟩, ?_⟩
          try simp only [-eq_self, hcell.1]
          refine ⟨by omega, ?_⟩
          refine ⟨_, cz_328 hV (by omega) (by omega), ?_⟩
          rintro _ I17 ⟨rfl, e9⟩; replace e9 := e9.symm; subst e9
          refine ⟨_, rfl, ?_⟩
          refine ⟨by omega, ?_⟩
          intro I20 e_I20; subst e_I20
          exact ih10 _ (by omega) _ _ _ rfl (⟨i + 1, rfl, by omega, hp, by omega, by rw [mp_step hy]; exact HD_ug hK rfl hy8 (by omega), FR_u hF (by omega) (by omega)⟩)
      exact L10 _ _ _ _ rfl (⟨0, rfl, rfl, by omega, by omega, hK, hF⟩)
  exact L2 _ _ _ rfl (⟨0, rfl, by omega, by rw [mp_0]; exact hH, FR_refl⟩)
/-- GrievingCamels$Herd.remindSome -/
theorem cz_19 {V : jx_V} (hV : V.1.stackTraces = false) {X : jx_X} {R : jx_R} {I : jx_I} {a0 : Nat} {a1 : Nat} {g d : GT} {L : List Nat}
    (hh : BX X R a0 THerd) (hr : BX X R a1 TRow) (hL : RW I a1 L) (hL8 : ∀ c ∈ L, c < 8) (hnd : L.Nodup) (d1 : a0 + 4 ≤ a1 ∨ a1 + 2 ≤ a0) (hH : HD I a0 g d) (hG : GD g d)
    {QE : String → jx_I → Prop} : jc V 1 19 (0, 0) [.ref a0, .ref a1] X I R (fun rv I' => rv = none ∧ HD I' a0 (slt L g d) d ∧ FR (a0 + 1) (a0 + 2) I I') QE := by
  refine wm_19 hV   (fun J2 J10 J69 hJJ => ?_)
  obtain ⟨hJ2, hJ10, hJ69⟩ := hJJ
  unfold wz_19
  have L2 : ∀ (n2 : Nat) (l2 : Int) (K : jx_I), n2 = ((10 : Int) - l2).toNat → (∃ p : Nat, l2 = p ∧ p ≤ 10 ∧ HD K a0 (mp (fun q c => if 0 < g q c ∧ g q c < d q c then g q c + 1 else g q c) L p 0 g) d ∧ FR (a0 + 1) (a0 + 2) I K) → J2 l2 K := by
    intro n2
    induction n2 using Nat.strongRecOn with
    | ind n2 ih2 =>
    intro l2 K hn2 hI2
    obtain ⟨p, rfl, hp, hK, hF⟩ := hI2
    refine hJ2 _ _ ?_
    unfold wz_19_2
    refine ⟨by omega, ?_⟩
    refine ⟨fun hq1 => ?_, fun hq1 => ?_⟩
    · refine ⟨rfl, HD_eq hK (fun q c hq hc => ⟨?_, rfl⟩), hF⟩
      rw [show p = 10 by omega, mp_end hq]
      unfold slt
      by_cases e : c ∈ L
      · rw [if_pos e]
        by_cases e2 : 0 < g q c ∧ g q c < d q c
        · rw [if_pos ⟨e, e2⟩, if_pos e2]
        · rw [if_neg (fun h => e2 h.2), if_neg e2]
      · rw [if_neg (fun h => e h.1), if_neg e]
    · have L10 : ∀ (n10 : Nat) (l2 : Int) (l3 : Int) (K2 : jx_I), n10 = ((L.length : Int) - l3).toNat → (∃ i : Nat, l2 = (p : Int) ∧ l3 = i ∧ p < 10 ∧ i ≤ L.length ∧ HD K2 a0 (mp (fun q c => if 0 < g q c ∧ g q c < d q c then g q c + 1 else g q c) L p i g) d ∧ FR (a0 + 1) (a0 + 2) I K2) → J10 l2 l3 K2 := by
        intro n10
        induction n10 using Nat.strongRecOn with
        | ind n10 ih10 =>
        intro l2 l3 K2 hn10 hI10
        obtain ⟨i, rfl, rfl, hp, hi, hK, hF⟩ := hI10
        have hLK : RW K2 a1 L := RW_fr hL hF (by omega)
        have hm := hLK.1
        have hn12 := hLK.2.1
        refine hJ10 _ _ _ ?_
        unfold wz_19_10
        refine ⟨s_Row_0 hr, by omega, ?_⟩
        refine ⟨fun hq2 => ?_, fun hq2 => ?_⟩
        · exact ih2 _ (by omega) _ _ rfl (⟨p + 1, by omega, by omega, by rw [← mp_next (i := i) (by omega)]; exact hK, hF⟩)
        · obtain ⟨y, hy, hy2⟩ := RW_get hLK (i := i) (by omega)
          have hym : y ∈ L := List.mem_of_getElem? hy
          have hy8 := hL8 y hym
          have hat := mp_at (f := (fun q c => if 0 < g q c ∧ g q c < d q c then g q c + 1 else g q c)) (g := g) (p := p) hnd hy
          have hix : (p : Int) * 8 + (y : Int) = ((p * 8 + y : Nat) : Int) := by omega
          have hcell := (hK p y hp hy8)
          rw [hat] at hcell
          have hb := hG p y hp hy8
          refine ⟨_, r_Row_0_0 hr, _, ⟨s_Row_1 hr, by decide⟩, ?_⟩
          try simp only [-eq_self, Int.toNat_natCast, hy2, hix]
          refine ⟨by omega, s_Herd_0 hh, _, r_Herd_0_0 hh, _, ⟨s_Herd_1 hh, by decide⟩, ?_⟩
          try simp only [-eq_self, hcell.1]
          refine ⟨by omega, ?_⟩
          refine ⟨fun hq3 => ?_, fun hq3 => ?_⟩
          · exact ih10 _ (by omega) _ _ _ rfl (⟨i + 1, rfl, by omega, hp, by omega, by rw [mp_step hy, gu_same (by rw [hat, if_neg (by omega)])]; exact hK, hF⟩)
          · refine ⟨by omega, _, r_Herd_0_1 hh, _, ⟨s_Herd_2 hh, by decide⟩, ?_⟩
            try simp only [-eq_self, hcell.2]
            refine ⟨by omega, ?_⟩
            refine ⟨fun hq4 => ?_, fun hq4 => ?_⟩
            · exact ih10 _ (by omega) _ _ _ rfl (⟨i + 1, rfl, by omega, hp, by omega, by rw [mp_step hy, gu_same (by rw [hat, if_neg (by omega)])]; exact hK, hF⟩)
            · refine ⟨by omega, by omega, ?_⟩
              intro I23 e_I23; subst e_I23
              refine hJ69 _ _ _ ?_
              unfold wz_19_69
              exact ih10 _ (by omega) _ _ _ rfl (⟨i + 1, rfl, by omega, hp, by omega, by rw [mp_step hy, if_pos (by omega)]; exact HD_ug hK rfl hy8 (by omega), FR_u hF (by omega) (by omega)⟩)
      exact L10 _ _ _ _ rfl (⟨0, rfl, rfl, by omega, by omega, hK, hF⟩)
  exact L2 _ _ _ rfl (⟨0, rfl, by omega, by rw [mp_0]; exact hH, FR_refl⟩)
/-- GrievingCamels$Herd.comesTo -/
theorem cz_16 {V : jx_V} (hV : V.1.stackTraces = false) {X : jx_X} {R : jx_R} {I : jx_I} {a0 : Nat} {a1 : Nat} {a2 : Int} {a3 : Nat} {g d : GT} {p : Nat} {L : List Nat} {mo : Nat → Int} {k : Int}
    (hh : BX X R a0 THerd) (hl : BX X R a1 TLand) (hr : BX X R a3 TRow) (hH : HD I a0 g d) (hG : GD g d) (h1 : a2 = (p : Int)) (hp : p < 10) (hL : RW I a3 L) (hL8 : ∀ c ∈ L, c < 8) (hnd : L.Nodup) (hmo : ∀ c ∈ L, (I (a1 + 4) c).toInt = mo c ∧ (mo c = -1 ∨ (0 ≤ mo c ∧ mo c < 8))) (hk : (I (a1 + 1) p).toInt = k) (d1 : a0 + 4 ≤ a1 ∨ a1 + 11 ≤ a0) (d3 : a0 + 4 ≤ a3 ∨ a3 + 2 ≤ a0)
    {QE : String → jx_I → Prop} : jc V 3 16 (0, 0) [.ref a0, .ref a1, jy a2, .ref a3] X I R (fun rv I' => rv = none ∧ HD I' a0 (cmg k mo L p g d) (cmd mo L p g d) ∧ FR (a0 + 1) (a0 + 4) I I') QE := by
  refine wm_16 hV (by omega)  (fun J22 hJJ => ?_)
  have hJ22 := hJJ
  unfold wz_16
  refine ⟨s_Herd_0 hh, ?_⟩
  refine ⟨_, cz_17 hV hh hl hr hH hG h1 hp hL hL8 hnd hmo d1 d3, ?_⟩
  rintro _ I4 ⟨rfl, hT, hF⟩
  refine ⟨rfl, ?_⟩
  have hGT := GD_t (mo := mo) (Lc := L) hG hp hL8
  have hk2 : (I4 (a1 + 1) p).toInt = k := by rw [hF (a1 + 1) (by omega), hk]
  have hpp : a2.toNat = p := by omega
  refine ⟨s_Land_0 hl, _, r_Land_0_0 hl, _, ⟨s_Land_1 hl, by decide⟩, ?_⟩
  try simp only [-eq_self, hpp, hk2]
  refine ⟨by omega, ?_⟩
  refine ⟨fun hq1 => ?_, fun hq1 => ?_⟩
  · refine ⟨by omega, ?_⟩
    refine ⟨fun hq2 => ?_, fun hq2 => ?_⟩
    · refine ⟨by trivial, ?_, hF⟩
      unfold cmg cmd
      rw [if_neg hq1, if_neg hq2]
      exact hT
    · refine ⟨_, cz_19 hV hh hr (RW_fr hL hF (by omega)) hL8 hnd d3 hT hGT, ?_⟩
      rintro _ I15 ⟨rfl, hT2, hF2⟩
      refine ⟨rfl, ?_⟩
      refine ⟨by trivial, ?_, FR_to hF hF2 (by omega) (by omega)⟩
      unfold cmg cmd
      rw [if_neg hq1, if_pos (by omega)]
      exact hT2
  · refine ⟨_, cz_18 hV hh hr (RW_fr hL hF (by omega)) hL8 hnd d3 hT hGT, ?_⟩
    rintro _ I19 ⟨rfl, hT2, hF2⟩
    refine ⟨rfl, ?_⟩
    have hk3 : (I19 (a1 + 1) p).toInt = k := by rw [hF2 (a1 + 1) (by omega), hk2]
    refine hJ22 _ ?_
    unfold wz_16_22
    refine ⟨s_Land_0 hl, _, r_Land_0_0 hl, _, ⟨s_Land_1 hl, by decide⟩, ?_⟩
    try simp only [-eq_self, hpp, hk3]
    refine ⟨by omega, ?_⟩
    refine ⟨fun hq3 => ?_, fun hq3 => ?_⟩
    · refine ⟨by trivial, ?_, FR_to hF hF2 (by omega) (by omega)⟩
      unfold cmg cmd
      rw [if_pos (by omega)]
      exact hT2
    · omega
/-- GrievingCamels$Herd.greatestOf -/
theorem cz_20 {V : jx_V} (hV : V.1.stackTraces = false) {X : jx_X} {R : jx_R} {I : jx_I} {a0 : Nat} {a1 : Int} {a2 : Int} {g d : GT} {p B : Nat}
    (hh : BX X R a0 THerd) (hH : HD I a0 g d) (hG : GD g d) (h1 : a1 = (p : Int)) (hp : p < 10) (h2 : a2 = (B : Int)) (hB : B < 2147483648)
    {QE : String → jx_I → Prop} : jc V 2 20 (0, 0) [.ref a0, jy a1, jy a2] X I R (fun rv I' => rv = some (jy (gmx g p B 8)) ∧ I' = I) QE := by
  refine wm_20 hV (by omega) (by omega)  (fun J5 J33 hJJ => ?_)
  obtain ⟨hJ5, hJ33⟩ := hJJ
  unfold wz_20
  have L5 : ∀ (n5 : Nat) (l3 : Int) (l4 : Int) (K : jx_I), n5 = ((8 : Int) - l4).toNat → (∃ i : Nat, l4 = i ∧ i ≤ 8 ∧ l3 = gmx g p B i ∧ (0 ≤ l3 ∧ l3 ≤ 20) ∧ K = I) → J5 l3 l4 K := by
    intro n5
    induction n5 using Nat.strongRecOn with
    | ind n5 ih5 =>
    intro l3 l4 K hn5 hI5
    obtain ⟨i, rfl, hi, hl3, hb, rfl⟩ := hI5
    refine hJ5 _ _ _ ?_
    unfold wz_20_5
    refine ⟨by omega, ?_⟩
    refine ⟨fun hq1 => ?_, fun hq1 => ?_⟩
    · exact ⟨by rw [hl3, show i = 8 by omega], rfl⟩
    · have hbit := jz_bit (B := B) (k := i) hB (by omega)
      simp only [-eq_self, h2, hbit]
      refine ⟨fun hq2 => ?_, fun hq2 => ?_⟩
      · exact ih5 _ (by omega) _ _ _ rfl (⟨i + 1, by omega, by omega, by unfold gmx; rw [bl_0 (by omega)]; exact hl3, hb, rfl⟩)
      · have hb3 := hG p i hp (by omega)
        refine ⟨s_Herd_0 hh, ?_⟩
        refine ⟨_, cz_11 hV hh hH h1 rfl hp (by omega), ?_⟩
        rintro _ I5 ⟨rfl, e9⟩; replace e9 := e9.symm; subst e9
        refine ⟨_, rfl, ?_⟩
        refine ⟨_, cz_328 hV (by omega) (by omega), ?_⟩
        rintro _ I9 ⟨rfl, e9⟩; replace e9 := e9.symm; subst e9
        refine ⟨_, rfl, ?_⟩
        refine hJ33 _ _ _ ?_
        unfold wz_20_33
        exact ih5 _ (by omega) _ _ _ rfl (⟨i + 1, by omega, by omega, by unfold gmx; rw [bl_1 (by omega), List.foldl_append, hl3]; rfl, by omega, rfl⟩)
  exact L5 _ _ _ _ rfl (⟨0, rfl, by omega, rfl, by omega, rfl⟩)
/-- GrievingCamels$Herd.wouldLearn -/
theorem cz_21 {V : jx_V} (hV : V.1.stackTraces = false) {X : jx_X} {R : jx_R} {I : jx_I} {a0 : Nat} {a1 : Int} {a2 : Int} {a3 : Int} {g d : GT} {p B : Nat}
    (hh : BX X R a0 THerd) (hH : HD I a0 g d) (hG : GD g d) (h1 : a1 = (p : Int)) (hp : p < 10) (h2 : a2 = (B : Int)) (hB : B < 2147483648) (h3 : 0 ≤ a3 ∧ a3 ≤ 20)
    {QE : String → jx_I → Prop} : jc V 2 21 (0, 0) [.ref a0, jy a1, jy a2, jy a3] X I R (fun rv I' => rv = some (jy (wlr g p B a3 8)) ∧ I' = I) QE := by
  refine wm_21 hV (by omega) (by omega) (by omega)  (fun J6 J40 hJJ => ?_)
  obtain ⟨hJ6, hJ40⟩ := hJJ
  unfold wz_21
  have L6 : ∀ (n6 : Nat) (l4 : Int) (l5 : Int) (K : jx_I), n6 = ((8 : Int) - l5).toNat → (∃ i : Nat, l5 = i ∧ i ≤ 8 ∧ l4 = wlr g p B a3 i ∧ K = I) → J6 l4 l5 K := by
    intro n6
    induction n6 using Nat.strongRecOn with
    | ind n6 ih6 =>
    intro l4 l5 K hn6 hI6
    obtain ⟨i, rfl, hi, hl4, rfl⟩ := hI6
    refine hJ6 _ _ _ ?_
    unfold wz_21_6
    refine ⟨by omega, ?_⟩
    refine ⟨fun hq1 => ?_, fun hq1 => ?_⟩
    · exact ⟨by rw [hl4, show i = 8 by omega], rfl⟩
    · have hbit := jz_bit (B := B) (k := i) hB (by omega)
      simp only [-eq_self, h2, hbit]
      refine ⟨fun hq2 => ?_, fun hq2 => ?_⟩
      · exact ih6 _ (by omega) _ _ _ rfl (⟨i + 1, by omega, by omega, by unfold wlr; rw [bl_0 (by omega)]; exact hl4, rfl⟩)
      · have hb3 := hG p i hp (by omega)
        refine ⟨s_Herd_0 hh, ?_⟩
        refine ⟨_, cz_11 hV hh hH h1 rfl hp (by omega), ?_⟩
        rintro _ I5 ⟨rfl, e9⟩; replace e9 := e9.symm; subst e9
        refine ⟨_, rfl, ?_⟩
        refine ⟨_, cz_328 hV (by omega) (by omega), ?_⟩
        rintro _ I9 ⟨rfl, e9⟩; replace e9 := e9.symm; subst e9
        refine ⟨_, rfl, ?_⟩
        refine hJ40 _ _ _ ?_
        unfold wz_21_40
        exact ih6 _ (by omega) _ _ _ rfl (⟨i + 1, by omega, by omega, by unfold wlr; rw [bl_1 (by omega), List.foldl_append, hl4]; rfl, rfl⟩)
  exact L6 _ _ _ _ rfl (⟨0, rfl, by omega, rfl, rfl⟩)
/-- GrievingCamels$Land.roadHours -/
theorem cz_36 {V : jx_V} (hV : V.1.stackTraces = false) {X : jx_X} {R : jx_R} {I : jx_I} {a0 : Nat} {a1 : Int} {a2 : Int} {l : LT} {p q : Nat}
    (hl : BX X R a0 TLand) (hD : LD I a0 l) (hn : Ln l ≤ 10) (h1 : a1 = (p : Int)) (h2 : a2 = (q : Int)) (hp : p < Ln l) (hq : q < Ln l)
    {QE : String → jx_I → Prop} : jc V 1 36 (0, 0) [.ref a0, jy a1, jy a2] X I R (fun rv I' => rv = some (jy (Lr l p q)) ∧ I' = I) QE := by
  refine wm_36 hV (by omega) (by omega)  ?_
  unfold wz_36
  refine ⟨s_Land_0 hl, _, r_Land_0_1 hl, _, ⟨s_Land_2 hl, by decide⟩, by omega, ?_⟩
  have hix : ((a1 * 10) + a2).toNat = p * 10 + q := by omega
  exact ⟨by rw [hix, hD.2.2.1 p q hp hq], rfl⟩
/-- GrievingCamels$Land.neededAt -/
theorem cz_39 {V : jx_V} (hV : V.1.stackTraces = false) {X : jx_X} {R : jx_R} {I : jx_I} {a0 : Nat} {a1 : Int} {l : LT} {p : Nat}
    (hl : BX X R a0 TLand) (hD : LD I a0 l) (hn : Ln l ≤ 10) (h1 : a1 = (p : Int)) (hp : p < Ln l)
    {QE : String → jx_I → Prop} : jc V 1 39 (0, 0) [.ref a0, jy a1] X I R (fun rv I' => rv = some (jy (nd (Lk l p))) ∧ I' = I) QE := by
  refine wm_39 hV (by omega)  ?_
  have hv := hD.2.1 p hp
  have hpp : a1.toNat = p := by omega
  unfold wz_39
  refine ⟨s_Land_0 hl, _, r_Land_0_0 hl, _, ⟨s_Land_1 hl, by decide⟩, by omega, ?_⟩
  refine ⟨fun hq1 => ?_, fun hq1 => ?_⟩
  · rw [hpp, hv] at hq1
    exact ⟨by unfold nd; rw [if_neg hq1], rfl⟩
  · rw [hpp, hv] at hq1
    exact ⟨by unfold nd; rw [if_pos hq1], rfl⟩
/-- GrievingCamels$Land.areAtOdds -/
theorem cz_40 {V : jx_V} (hV : V.1.stackTraces = false) {X : jx_X} {R : jx_R} {I : jx_I} {a0 : Nat} {a1 : Int} {a2 : Int} {l : LT} {c e : Nat}
    (hl : BX X R a0 TLand) (hD : LD I a0 l) (hW : WT l) (h1 : a1 = (c : Int)) (h2 : a2 = (e : Int)) (hc : c < Lm l) (he : e < 32)
    {QE : String → jx_I → Prop} : jc V 1 40 (0, 0) [.ref a0, jy a1, jy a2] X I R (fun rv I' => rv = some (jy (bN (Lf l c) e : Nat)) ∧ I' = I) QE := by
  have hW0 := hW.1
  have hm8 := hW.1.2
  refine wm_40 hV (by omega) (by omega)  ?_
  have hv := (hD.2.2.2.1 c hc).2.2
  have hf := (hW.2.2.2.1 c hc).2.2
  have hpp : a1.toNat = c := by omega
  have hbit := jz_bit (B := Lf l c) (k := e) (by omega) he
  have h01 := bN_01 (Lf l c) e
  unfold wz_40
  refine ⟨s_Land_0 hl, _, r_Land_0_4 hl, _, ⟨s_Land_5 hl, by decide⟩, by omega, ?_⟩
  refine ⟨fun hq1 => ?_, fun hq1 => ?_⟩
  · rw [hpp, hv, h2, hbit] at hq1
    exact ⟨by rw [hq1], rfl⟩
  · rw [hpp, hv, h2, hbit] at hq1
    exact ⟨by rw [show (bN (Lf l c) e : Int) = 1 by omega], rfl⟩
/-- GrievingCamels$Land.hasAll -/
theorem cz_42 {V : jx_V} (hV : V.1.stackTraces = false) {X : jx_X} {R : jx_R} {I : jx_I} {a0 : Nat} {a1 : Int} {l : LT}
    (hl : BX X R a0 TLand) (hD : LD I a0 l) (hm : Lm l ≤ 8) (r_a1 : -2147483648 ≤ a1 ∧ a1 < 2147483648)
    {QE : String → jx_I → Prop} : jc V 1 42 (0, 0) [.ref a0, jy a1] X I R (fun rv I' => rv = some (jy (if 0 ≤ a1 ∧ a1 < ((2 ^ Lm l : Nat) : Int) then 1 else 0)) ∧ I' = I) QE := by
  refine wm_42 hV (by omega)  ?_
  have hv := hD.1.2
  have h1 := jz_1sh (k := Lm l) (by omega)
  rw [← hv] at h1
  unfold wz_42
  refine ⟨fun hq1 => ?_, fun hq1 => ?_⟩
  · exact ⟨by rw [if_neg (by omega)], rfl⟩
  · refine ⟨s_Land_0 hl, ?_⟩
    refine ⟨fun hq2 => ?_, fun hq2 => ?_⟩
    · rw [h1] at hq2
      exact ⟨by rw [if_neg (by omega)], rfl⟩
    · rw [h1] at hq2
      exact ⟨by rw [if_pos (by omega)], rfl⟩
/-- GrievingCamels$Land.haltAt -/
theorem cz_38 {V : jx_V} (hV : V.1.stackTraces = false) {X : jx_X} {R : jx_R} {I : jx_I} {a0 : Nat} {a1 : Int} {a2 : Nat} {a3 : Nat} {l : LT} {p : Nat} {g d : GT} {L : List Nat}
    (hl : BX X R a0 TLand) (hD : LD I a0 l) (hW : WT l) (h3 : BX X R a3 THerd) (h2 : BX X R a2 TRow) (hH : HD I a3 g d) (hG : GD g d) (hL : RW I a2 L) (hL8 : ∀ c ∈ L, c < 8) (h1 : a1 = (p : Int)) (hp : p < Ln l) (d2 : a0 + 11 ≤ a2 ∨ a2 + 2 ≤ a0) (d3 : a0 + 11 ≤ a3 ∨ a3 + 4 ≤ a0)
    {QE : String → jx_I → Prop} : jc V 4 38 (0, 0) [.ref a0, jy a1, .ref a2, .ref a3] X I R (fun rv I' => rv = some (jy (hlt (Lc l) (L.map (g p)) (nd (Lk l p)))) ∧ FR (a0 + 9) (a0 + 11) I I') QE := by
  have hW0 := hW.1
  have hn := hW.1.1
  refine wm_38 hV (by omega)  ?_
  unfold wz_38
  refine ⟨s_Land_0 hl, _, r_Land_0_6 hl, s_Herd_0 h3, _, r_Herd_0_0 h3, ?_⟩
  refine ⟨_, cz_39 hV hl hD hn h1 hp, ?_⟩
  rintro _ I9 ⟨rfl, e9⟩; replace e9 := e9.symm; subst e9
  refine ⟨_, rfl, ?_⟩
  refine ⟨s_Law_0 (b_Land_7 hl), ?_⟩
  refine ⟨_, cz_52 (base := p * 8) (g := g p) hV (b_Land_7 hl) h2 (s_Herd_1 h3) (by decide) hL (fun _ => hD.2.2.2.2 (Or.inl (by omega))) hW.2.2.2.2.2 (by omega) (by omega) (fun c hc => by have := hL8 c hc; omega) (fun c hc => ⟨(hH p c (by omega) (hL8 c hc)).1, (hG p c (by omega) (hL8 c hc)).1⟩) (by omega) (by omega) (by unfold nd; split <;> omega), ?_⟩
  rintro _ I14 ⟨rfl, hF⟩
  refine ⟨_, rfl, ?_⟩
  exact ⟨rfl, hF⟩
/-- GrievingCamels$Land.roadsOf -/
theorem cz_37 {V : jx_V} (hV : V.1.stackTraces = false) {X : jx_X} {R : jx_R} {I : jx_I} {a0 : Nat} {a1 : Nat} {l : LT} {J : List Nat}
    (hl : BX X R a0 TLand) (hD : LD I a0 l) (hW : WT l) (hr : BX X R a1 TRow) (hJ : RW I a1 J) (hJn : ∀ c ∈ J, c < Ln l)
    {QE : String → jx_I → Prop} : jc V 2 37 (0, 0) [.ref a0, .ref a1] X I R (fun rv I' => (∃ x : Int, rv = some (jy x) ∧ ((RJ (Lr l) J ∧ x = rs (Lr l) J (J.length - 1)) ∨ (¬ RJ (Lr l) J ∧ x = -1))) ∧ I' = I) QE := by
  have hW0 := hW.1
  refine wm_37 hV   (fun J4 hJJ => ?_)
  have hJ4 := hJJ
  have hm := hJ.1; have hn12 := hJ.2.1; have hn := hW.1.1
  unfold wz_37
  have L4 : ∀ (n4 : Nat) (l2 : Int) (l3 : Int) (K : jx_I), n4 = ((J.length : Int) - l3).toNat → (∃ i : Nat, l3 = (i + 1 : Nat) ∧ (i < J.length ∨ i = 0) ∧ l2 = rs (Lr l) J i ∧ (∀ k, k < i → Lr l (J.getD k 0) (J.getD (k + 1) 0) ≠ 0) ∧ K = I) → J4 l2 l3 K := by
    intro n4
    induction n4 using Nat.strongRecOn with
    | ind n4 ih4 =>
    intro l2 l3 K hn4 hI4
    obtain ⟨i, rfl, hi, hl2, hj, rfl⟩ := hI4
    refine hJ4 _ _ _ ?_
    unfold wz_37_4
    refine ⟨s_Row_0 hr, by omega, ?_⟩
    refine ⟨fun hq1 => ?_, fun hq1 => ?_⟩
    · exact ⟨⟨_, rfl, Or.inl ⟨fun k hk => hj k (by omega), by rw [hl2]; congr 1; omega⟩⟩, rfl⟩
    · obtain ⟨e1, m1⟩ := RW_gd hJ (i := i) (by omega)
      obtain ⟨e2, m2⟩ := RW_gd hJ (i := i + 1) (by omega)
      have b1 := hJn _ m1
      have b2 := hJn _ m2
      have hrr := (hW.2.2.1 _ _ b1 b2).1
      refine ⟨_, r_Row_0_0 hr, _, ⟨s_Row_1 hr, by decide⟩, ?_⟩
      try simp only [-eq_self, show (((i + 1 : Nat) : Int) - 1).toNat = i by omega, show ((i + 1 : Nat) : Int).toNat = i + 1 by omega, e1, e2]
      refine ⟨by omega, by omega, s_Land_0 hl, ?_⟩
      refine ⟨_, cz_36 hV hl hD hn rfl rfl b1 b2, ?_⟩
      rintro _ I12 ⟨rfl, e9⟩; replace e9 := e9.symm; subst e9
      refine ⟨_, rfl, ?_⟩
      refine ⟨by omega, ?_⟩
      refine ⟨fun hq2 => ?_, fun hq2 => ?_⟩
      · exact ih4 _ (by omega) _ _ _ rfl (⟨i + 1, by omega, by omega, by rw [hl2]; rfl, fun k hk => by
          rcases Nat.lt_or_ge k i with h | h
          · exact hj k h
          · rw [show k = i by omega]; exact hq2, rfl⟩)
      · exact ⟨⟨_, rfl, Or.inr ⟨fun h => h i (by omega) (by omega), rfl⟩⟩, rfl⟩
  exact L4 _ _ _ _ rfl (⟨0, rfl, Or.inr rfl, rfl, fun k hk => by omega, rfl⟩)
/-- GrievingCamels$Land.quarrelsIn -/
theorem cz_41 {V : jx_V} (hV : V.1.stackTraces = false) {X : jx_X} {R : jx_R} {I : jx_I} {a0 : Nat} {a1 : Nat} {l : LT} {J : List Nat}
    (hl : BX X R a0 TLand) (hD : LD I a0 l) (hW : WT l) (hr : BX X R a1 TRow) (hJ : RW I a1 J) (hJn : ∀ c ∈ J, c < Lm l)
    {QE : String → jx_I → Prop} : jc V 2 41 (0, 0) [.ref a0, .ref a1] X I R (fun rv I' => rv = some (jy (qn (Lf l) J (J.length - 1) : Nat)) ∧ I' = I) QE := by
  have hW0 := hW.1
  refine wm_41 hV   (fun J4 J36 hJJ => ?_)
  obtain ⟨hJ4, hJ36⟩ := hJJ
  have hm := hJ.1; have hn12 := hJ.2.1; have hn := hW.1.2
  unfold wz_41
  have L4 : ∀ (n4 : Nat) (l2 : Int) (l3 : Int) (K : jx_I), n4 = ((J.length : Int) - l3).toNat → (∃ i : Nat, l3 = (i + 1 : Nat) ∧ (i < J.length ∨ i = 0) ∧ l2 = (qn (Lf l) J i : Nat) ∧ K = I) → J4 l2 l3 K := by
    intro n4
    induction n4 using Nat.strongRecOn with
    | ind n4 ih4 =>
    intro l2 l3 K hn4 hI4
    obtain ⟨i, rfl, hi, hl2, rfl⟩ := hI4
    refine hJ4 _ _ _ ?_
    unfold wz_41_4
    refine ⟨s_Row_0 hr, by omega, ?_⟩
    refine ⟨fun hq1 => ?_, fun hq1 => ?_⟩
    · exact ⟨by rw [hl2, show J.length - 1 = i by omega], rfl⟩
    · obtain ⟨e1, m1⟩ := RW_gd hJ (i := i) (by omega)
      obtain ⟨e2, m2⟩ := RW_gd hJ (i := i + 1) (by omega)
      have b1 := hJn _ m1
      have b2 := hJn _ m2
      have hqs : qn (Lf l) J (i + 1) = qn (Lf l) J i + bN (Lf l (J.getD i 0)) (J.getD (i + 1) 0) := rfl
      have h01 := bN_01 (Lf l (J.getD i 0)) (J.getD (i + 1) 0)
      refine ⟨_, r_Row_0_0 hr, _, ⟨s_Row_1 hr, by decide⟩, ?_⟩
      try simp only [-eq_self, show (((i + 1 : Nat) : Int) - 1).toNat = i by omega, show ((i + 1 : Nat) : Int).toNat = i + 1 by omega, e1, e2]
      refine ⟨by omega, by omega, s_Land_0 hl, ?_⟩
      refine ⟨_, cz_40 hV hl hD hW rfl rfl b1 (by omega), ?_⟩
      rintro _ I12 ⟨rfl, e9⟩; replace e9 := e9.symm; subst e9
      refine ⟨_, rfl, ?_⟩
      refine ⟨by omega, ?_⟩
      refine ⟨fun hq2 => ?_, fun hq2 => ?_⟩
      · exact ih4 _ (by omega) _ _ _ rfl (⟨i + 1, by omega, by omega, by omega, rfl⟩)
      · refine hJ36 _ _ _ ?_
        unfold wz_41_36
        exact ih4 _ (by omega) _ _ _ rfl (⟨i + 1, by omega, by omega, by omega, rfl⟩)
  exact L4 _ _ _ _ rfl (⟨0, rfl, Or.inr rfl, rfl, rfl⟩)
