/-! ===== a journey gone through; class Trip ===== -/
def FR2 (a b c d : Nat) (I I' : jx_I) : Prop := ∀ q, (q < a ∨ b ≤ q) → (q < c ∨ d ≤ q) → I' q = I q
theorem FR2_refl {a b c d : Nat} {I : jx_I} : FR2 a b c d I I := fun _ _ _ => rfl
theorem FR2_l {a b c d lo hi : Nat} {I I' I2 : jx_I} (h : FR2 a b c d I I') (h2 : FR lo hi I' I2) (h1 : a ≤ lo) (h3 : hi ≤ b) : FR2 a b c d I I2 := fun q h4 h5 => (h2 q (by omega)).trans (h q h4 h5)
theorem FR2_r {a b c d lo hi : Nat} {I I' I2 : jx_I} (h : FR2 a b c d I I') (h2 : FR lo hi I' I2) (h1 : c ≤ lo) (h3 : hi ≤ d) : FR2 a b c d I I2 := fun q h4 h5 => (h2 q (by omega)).trans (h q h4 h5)
theorem FR2_trans {a b c d : Nat} {I I' I2 : jx_I} (h : FR2 a b c d I I') (h2 : FR2 a b c d I' I2) : FR2 a b c d I I2 := fun q h4 h5 => (h2 q h4 h5).trans (h q h4 h5)
theorem FR2_u {a b c d x k : Nat} {I I' : jx_I} {v : Int32} (h : FR2 a b c d I I') (h1 : a ≤ x) (h2 : x < b) : FR2 a b c d I (jx_u I' x k v) := fun q h4 h5 => by
  rw [jx_u_r I' k v (by omega)]; exact h q h4 h5
theorem FR2_cp {a b c d x y sp dp n : Nat} {I I' : jx_I} (h : FR2 a b c d I I') (h1 : a ≤ y) (h2 : y < b) : FR2 a b c d I (jx_cp I' x y sp dp n) := fun q h4 h5 => by
  rw [← h q h4 h5]
  funext k
  unfold jx_cp
  exact if_neg (fun e => by omega)
theorem LD_fr2 {I I' : jx_I} {x a b c d : Nat} {l : LT} (h : LD I x l) (hf : FR2 a b c d I I') (h1 : x + 9 ≤ a ∨ b ≤ x) (h2 : x + 9 ≤ c ∨ d ≤ x) : LD I' x l := LD_of h (fun q h3 h4 => hf q (by omega) (by omega))
theorem RW_fr2 {I I' : jx_I} {x a b c d : Nat} {L : List Nat} (h : RW I x L) (hf : FR2 a b c d I I') (h1 : x + 2 ≤ a ∨ b ≤ x) (h2 : x + 2 ≤ c ∨ d ≤ x) : RW I' x L := RW_of h (hf _ (by omega) (by omega)) (hf _ (by omega) (by omega))
theorem HD_fr2 {I I' : jx_I} {x a b c d : Nat} {g e : GT} (h : HD I x g e) (hf : FR2 a b c d I I') (h1 : x + 3 ≤ a ∨ b ≤ x) (h2 : x + 3 ≤ c ∨ d ≤ x) : HD I' x g e := HD_of h (hf _ (by omega) (by omega)) (hf _ (by omega) (by omega))
/-- griefs and depths behind the first k halts of a journey -/
def jst (l : LT) (J L : List Nat) (g d : GT) : Nat → GT × GT
  | 0 => (g, d)
  | k + 1 => (cmg (Lk l (J.getD (k + 1) 0)) (Lo l) L (J.getD (k + 1) 0) (jst l J L g d k).1 (jst l J L g d k).2, cmd (Lo l) L (J.getD (k + 1) 0) (jst l J L g d k).1 (jst l J L g d k).2)
/-- the halt in the place behind the k-th road, all halts up to it -/
def jht (l : LT) (J L : List Nat) (g d : GT) (k : Nat) : Int := hlt (Lc l) (L.map ((jst l J L g d k).1 (J.getD (k + 1) 0))) (nd (Lk l (J.getD (k + 1) 0)))
def jhs (l : LT) (J L : List Nat) (g d : GT) : Nat → Int
  | 0 => 0
  | k + 1 => jhs l J L g d k + jht l J L g d k
theorem jhs_rng (l : LT) (J L : List Nat) (g d : GT) : ∀ k, 0 ≤ jhs l J L g d k ∧ jhs l J L g d k ≤ 99 * (k : Int)
  | 0 => by simp [jhs]
  | k + 1 => by
    have h1 := jhs_rng l J L g d k
    have h2 := hlt_rng (Lc l) (L.map ((jst l J L g d k).1 (J.getD (k + 1) 0))) (nd (Lk l (J.getD (k + 1) 0)))
    unfold jhs jht
    omega
theorem GD_j {l : LT} {J L : List Nat} {g d : GT} (h : GD g d) (hJ : ∀ c ∈ J, c < 10) (hL : ∀ c ∈ L, c < 8) : ∀ k, k < J.length ∨ k = 0 → GD (jst l J L g d k).1 (jst l J L g d k).2
  | 0, _ => h
  | k + 1, hk => by
    have h1 := GD_j (l := l) h hJ hL k (by omega)
    refine GD_c h1 (hJ _ ?_) hL
    rw [List.getD_eq_getElem?_getD, List.getElem?_eq_getElem (by omega)]
    exact List.getElem_mem _
/-- what a walk leaves in a Trip -/
def TP (I : jx_I) (t : Nat) (l : LT) (J L : List Nat) (g d : GT) : Prop := HD I (t + 1) (jst l J L g d (J.length - 1)).1 (jst l J L g d (J.length - 1)).2 ∧ (I t 3).toInt = rs (Lr l) J (J.length - 1) ∧ (I t 4).toInt = jhs l J L g d (J.length - 1) ∧ ∀ k, k + 1 < J.length → (I (t + 6) (k + 1)).toInt = jht l J L g d k ∧ ∀ c, c < 8 → (I (t + 5) ((k + 1) * 8 + c)).toInt = (jst l J L g d k).1 (J.getD (k + 1) 0) c
theorem TP_fr {I I' : jx_I} {t lo hi : Nat} {l : LT} {J L : List Nat} {g d : GT} (h : TP I t l J L g d) (hf : FR lo hi I I') (ho : t + 7 ≤ lo ∨ hi ≤ t) : TP I' t l J L g d := by
  unfold TP
  rw [hf t (by omega), hf (t + 5) (by omega), hf (t + 6) (by omega)]
  exact ⟨HD_fr h.1 hf (by omega), h.2⟩
/-- GrievingCamels$Trip.haltOnComing -/
theorem cz_122 {V : jx_V} (hV : V.1.stackTraces = false) {X : jx_X} {R : jx_R} {I : jx_I} {a0 : Nat} {a1 : Nat} {a2 : Int} {a3 : Int} {a4 : Nat} {l : LT} {p i : Nat} {L : List Nat} {g : Nat → Int}
    (ht : BX X R a0 TTrip) (hl : BX X R a1 TLand) (h4 : BX X R a4 TRow) (hD : LD I a1 l) (hW : WT l) (hL : RW I a4 L) (hL8 : ∀ c ∈ L, c < 8) (h2 : a2 = (p : Int)) (hp : p < Ln l) (h3 : a3 = (i : Int)) (hi : i < 12) (hg : GR I (a0 + 5) (i * 8) L g) (d4 : a1 + 11 ≤ a4 ∨ a4 + 2 ≤ a1) (dl : a0 + 7 ≤ a1 ∨ a1 + 11 ≤ a0)
    {QE : String → jx_I → Prop} : jc V 4 122 (0, 0) [.ref a0, .ref a1, jy a2, jy a3, .ref a4] X I R (fun rv I' => rv = some (jy (hlt (Lc l) (L.map g) (nd (Lk l p)))) ∧ FR (a1 + 9) (a1 + 11) I I') QE := by
  have hW0 := hW.1
  have hn := hW.1.1
  refine wm_122 hV (by omega) (by omega)  ?_
  unfold wz_122
  refine ⟨s_Land_0 hl, _, r_Land_0_6 hl, s_Trip_0 ht, _, r_Trip_0_1 ht, ?_⟩
  refine ⟨_, cz_39 hV hl hD hn h2 hp, ?_⟩
  rintro _ I9 ⟨rfl, e9⟩; replace e9 := e9.symm; subst e9
  refine ⟨_, rfl, ?_⟩
  refine ⟨s_Law_0 (b_Land_7 hl), ?_⟩
  refine ⟨_, cz_52 (base := i * 8) hV (b_Land_7 hl) h4 (s_Trip_5 ht) (by decide) hL (fun _ => hD.2.2.2.2 (Or.inl (by omega))) hW.2.2.2.2.2 (by omega) (by omega) (fun c hc => by have := hL8 c hc; omega) hg (by omega) (by omega) (by unfold nd; split <;> omega), ?_⟩
  rintro _ I14 ⟨rfl, hF⟩
  refine ⟨_, rfl, ?_⟩
  exact ⟨rfl, hF⟩
/-- GrievingCamels$Trip.hoursInAll -/
theorem cz_123 {V : jx_V} (hV : V.1.stackTraces = false) {X : jx_X} {R : jx_R} {I : jx_I} {a0 : Nat} 
    (ht : BX X R a0 TTrip)
    {QE : String → jx_I → Prop} : jc V 1 123 (0, 0) [.ref a0] X I R (fun rv I' => rv = some (jy ((I a0 3).toInt + (I a0 4).toInt)) ∧ I' = I) QE := by
  refine wm_123 hV   ?_
  unfold wz_123
  refine ⟨s_Trip_0 ht, ?_⟩
  exact ⟨rfl, rfl⟩
/-- GrievingCamels$Trip.walk -/
theorem cz_121 {V : jx_V} (hV : V.1.stackTraces = false) {X : jx_X} {R : jx_R} {I : jx_I} {a0 : Nat} {a1 : Nat} {a2 : Nat} {a3 : Nat} {a4 : Nat} {l : LT} {J L : List Nat} {g d : GT}
    (ht : BX X R a0 TTrip) (hl : BX X R a1 TLand) (h2 : BX X R a2 TRow) (h3 : BX X R a3 TRow) (hD : LD I a1 l) (hW : WT l) (hJ : RW I a2 J) (hJn : ∀ c ∈ J, c < Ln l) (hL : RW I a3 L) (hLm : ∀ c ∈ L, c < Lm l) (hnd : L.Nodup) (hG : GD g d) (dl : a0 + 7 ≤ a1 ∨ a1 + 11 ≤ a0) (d2 : (a0 + 7 ≤ a2 ∨ a2 + 2 ≤ a0) ∧ (a1 + 11 ≤ a2 ∨ a2 + 2 ≤ a1)) (d3 : (a0 + 7 ≤ a3 ∨ a3 + 2 ≤ a0) ∧ (a1 + 11 ≤ a3 ∨ a3 + 2 ≤ a1)) (h4 : BX X R a4 THerd) (hRJ : RJ (Lr l) J) (hH : HD I a4 g d) (d4 : a4 = a0 + 1 ∨ a0 + 7 ≤ a4 ∨ a4 + 4 ≤ a0) (dd : (a1 + 11 ≤ a4 ∨ a4 + 4 ≤ a1) ∨ a4 = a0 + 1)
    {QE : String → jx_I → Prop} : jc V 5 121 (0, 0) [.ref a0, .ref a1, .ref a2, .ref a3, .ref a4] X I R (fun rv I' => rv = none ∧ TP I' a0 l J L g d ∧ I' (a0 + 6) 0 = I (a0 + 6) 0 ∧ FR2 a0 (a0 + 7) (a1 + 9) (a1 + 11) I I') QE := by
  have hW0 := hW.1
  refine wm_121 hV   (fun J26 hJJ => ?_)
  have hJ26 := hJJ
  have hn := hW.1
  have hL8 : ∀ c ∈ L, c < 8 := fun c hc => by have := hLm c hc; omega
  have hJ10 : ∀ c ∈ J, c < 10 := fun c hc => by have := hJn c hc; omega
  have hm := hJ.1; have hn12 := hJ.2.1
  unfold wz_121
  refine ⟨s_Trip_0 ht, _, r_Trip_0_0 ht, s_Herd_0 (b_Trip_1 ht), ?_⟩
  refine ⟨_, cz_9 hV (b_Trip_1 ht) h4 (by omega) hH, ?_⟩
  rintro _ I7 ⟨rfl, hH1, hF1⟩
  refine ⟨rfl, ?_⟩
  skip
  refine ⟨s_Land_0 hl, ?_⟩
  refine ⟨_, cz_37 hV hl (LD_fr hD hF1 (by omega)) hW h2 (RW_fr hJ hF1 (by omega)) hJn, ?_⟩
  rintro _ I12 ⟨⟨x, rfl, hx⟩, rfl⟩
  refine ⟨_, rfl, ?_⟩
  skip
  intro I14 e_I14; subst e_I14
  intro I15 e_I15; subst e_I15
  have L26 : ∀ (n26 : Nat) (l5 : Int) (K : jx_I), n26 = ((J.length : Int) - l5).toNat → (∃ i : Nat, l5 = (i + 1 : Nat) ∧ (i < J.length ∨ i = 0) ∧ HD K (a0 + 1) (jst l J L g d i).1 (jst l J L g d i).2 ∧ (K a0 3).toInt = rs (Lr l) J (J.length - 1) ∧ (K a0 4).toInt = jhs l J L g d i ∧ (∀ k, k < i → (K (a0 + 6) (k + 1)).toInt = jht l J L g d k ∧ ∀ c, c < 8 → (K (a0 + 5) ((k + 1) * 8 + c)).toInt = (jst l J L g d k).1 (J.getD (k + 1) 0) c) ∧ K (a0 + 6) 0 = I (a0 + 6) 0 ∧ FR2 a0 (a0 + 7) (a1 + 9) (a1 + 11) I K) → J26 l5 K := by
    intro n26
    induction n26 using Nat.strongRecOn with
    | ind n26 ih26 =>
    intro l5 K hn26 hI26
    obtain ⟨i, rfl, hi, hK, hK3, hK4, hKs, hK0, hF⟩ := hI26
    have hJK : RW K a2 J := RW_fr2 hJ hF (by omega) (by omega)
    have hmK := hJK.1
    have hGi := GD_j (l := l) hG hJ10 hL8 i hi
    have hrg := jhs_rng l J L g d i
    refine hJ26 _ _ ?_
    unfold wz_121_26
    refine ⟨s_Row_0 h2, by omega, ?_⟩
    refine ⟨fun hq1 => ?_, fun hq1 => ?_⟩
    · have hie : J.length - 1 = i := by omega
      refine ⟨rfl, ⟨?_, ?_, ?_, fun k hk => hKs k (by omega)⟩, hK0, hF⟩
      · rw [hie]; exact hK
      · exact hK3
      · rw [hie]; exact hK4
    · obtain ⟨e1, m1⟩ := RW_gd hJK (i := i + 1) (by omega)
      generalize hpe : J.getD (i + 1) 0 = p at e1 m1
      have hp := hJn p m1
      have hp10 := hJ10 p m1
      refine ⟨_, r_Row_0_0 h2, _, ⟨s_Row_1 h2, by decide⟩, ?_⟩
      try simp only [-eq_self, show ((i + 1 : Nat) : Int).toNat = i + 1 by omega, e1]
      refine ⟨by omega, s_Trip_0 ht, _, r_Trip_0_0 ht, s_Herd_0 (b_Trip_1 ht), _, r_Herd_0_0 (b_Trip_1 ht), _, r_Trip_0_1 ht, _, ⟨s_Herd_1 (b_Trip_1 ht), by decide⟩, _, ⟨s_Trip_5 ht, by decide⟩, by omega, ?_⟩
      intro I36 e_I36
      have f36 : FR2 a0 (a0 + 7) (a1 + 9) (a1 + 11) I I36 := by rw [e_I36]; exact FR2_cp hF (by omega) (by omega)
      have g36 : GR I36 (a0 + 5) ((i + 1) * 8) L ((jst l J L g d i).1 p) := by
        intro c hc
        have hc8 := hL8 c hc
        refine ⟨?_, (hGi p c hp10 hc8).1⟩
        rw [e_I36, ← (hK p c hp10 hc8).1]
        unfold jx_cp
        rw [if_pos (by refine ⟨rfl, ?_, ?_⟩ <;> omega)]
        congr 2
        omega
      have c36 : ∀ c, c < 8 → (I36 (a0 + 5) ((i + 1) * 8 + c)).toInt = (jst l J L g d i).1 p c := by
        intro c hc8
        rw [e_I36, ← (hK p c hp10 hc8).1]
        unfold jx_cp
        rw [if_pos (by refine ⟨rfl, ?_, ?_⟩ <;> omega)]
        congr 2
        omega
      have o36 : ∀ x, x ≠ a0 + 5 → I36 x = K x := by
        intro x hx
        rw [e_I36]
        funext k
        unfold jx_cp
        rw [if_neg (fun e => hx e.1)]
      have o36b : ∀ k, k < (i + 1) * 8 → I36 (a0 + 5) k = K (a0 + 5) k := by
        intro k hk
        rw [e_I36]
        unfold jx_cp
        rw [if_neg (by omega)]
      refine ⟨_, r_Trip_0_2 ht, ?_⟩
      refine ⟨_, cz_122 (p := p) (i := i + 1) (g := (jst l J L g d i).1 p) hV ht hl h3 (LD_fr2 hD f36 (by omega) (by omega)) hW (RW_fr2 hL f36 (by omega) (by omega)) hL8 rfl hp rfl (by omega) g36 (by omega) dl, ?_⟩
      rintro _ I41 ⟨rfl, hFa⟩
      refine ⟨_, rfl, ?_⟩
      refine ⟨_, ⟨s_Trip_6 ht, by decide⟩, by omega, ?_⟩
      intro I46 e_I46
      have hht : hlt (Lc l) (L.map ((jst l J L g d i).1 p)) (nd (Lk l p)) = jht l J L g d i := by unfold jht; rw [hpe]
      rw [hht] at e_I46
      have hrr := hlt_rng (Lc l) (L.map ((jst l J L g d i).1 p)) (nd (Lk l p))
      rw [hht] at hrr
      have v46 : (I46 (a0 + 6) (i + 1)).toInt = jht l J L g d i := by rw [e_I46, jx_u_s]; exact jy_toInt (by omega)
      have w46 : (I46 a0 4).toInt = jhs l J L g d i := by rw [e_I46, jx_u_a _ _ _ _ (by omega), hFa a0 (by omega), o36 a0 (by omega), hK4]
      refine ⟨by omega, ?_⟩
      intro I48 e_I48
      rw [v46, w46] at e_I48
      have f48 : FR2 a0 (a0 + 7) (a1 + 9) (a1 + 11) I I48 := by rw [e_I48, e_I46]; exact FR2_u (FR2_u (FR2_r f36 hFa (by omega) (by omega)) (by omega) (by omega)) (by omega) (by omega)
      have D48 := LD_fr2 hD f48 (by omega) (by omega)
      have o48 : ∀ x, x ≠ a0 → x ≠ a0 + 6 → (x < a1 + 9 ∨ a1 + 11 ≤ x) → I48 x = I36 x := by
        intro x h1 h2 h3
        rw [e_I48, jx_u_r _ _ _ h1, e_I46, jx_u_r _ _ _ h2, hFa x h3]
      have h48 : HD I48 (a0 + 1) (jst l J L g d i).1 (jst l J L g d i).2 := HD_of hK (by rw [o48 _ (by omega) (by omega) (by omega), o36 _ (by omega)]) (by rw [o48 _ (by omega) (by omega) (by omega), o36 _ (by omega)])
      refine ⟨_, cz_16 (p := p) (k := Lk l p) (mo := Lo l) hV (b_Trip_1 ht) hl h3 h48 hGi rfl hp10 (RW_fr2 hL f48 (by omega) (by omega)) hL8 hnd (fun c hc => ⟨(D48.2.2.2.1 c (hLm c hc)).2.1, by have h7 := (hW.2.2.2.1 c (hLm c hc)).2.1; omega⟩) (D48.2.1 p hp) (by omega) (by omega), ?_⟩
      rintro _ I51 ⟨rfl, hT, hFb⟩
      refine ⟨rfl, ?_⟩
      exact ih26 _ (by omega) _ _ rfl (⟨i + 1, rfl, by omega, by unfold jst; rw [hpe]; exact hT, by rw [hFb a0 (by omega), e_I48, jx_u_k _ _ _ _ (by omega), e_I46, jx_u_a _ _ _ _ (by omega), hFa a0 (by omega), o36 a0 (by omega), hK3], by rw [hFb a0 (by omega), e_I48, jx_u_s]; exact jy_toInt (by unfold jhs at *; omega), fun k hk => by
        rcases Nat.lt_or_ge k i with h | h
        · obtain ⟨q1, q2⟩ := hKs k h
          refine ⟨?_, fun c hc => ?_⟩
          · rw [hFb _ (by omega), e_I48, jx_u_a _ _ _ _ (by omega), e_I46, jx_u_k _ _ _ _ (by omega), hFa _ (by omega), o36 _ (by omega), q1]
          · rw [hFb _ (by omega), o48 _ (by omega) (by omega) (by omega), o36b _ (by omega), q2 c hc]
        · have e : k = i := by omega
          subst e
          refine ⟨?_, fun c hc => ?_⟩
          · rw [hFb _ (by omega), e_I48, jx_u_a _ _ _ _ (by omega), v46]
          · rw [hFb _ (by omega), o48 _ (by omega) (by omega) (by omega), c36 c hc, hpe], by rw [hFb _ (by omega), e_I48, jx_u_a _ _ _ _ (by omega), e_I46, jx_u_k _ _ _ _ (by omega), hFa _ (by omega), o36 _ (by omega), hK0], FR2_l f48 hFb (by omega) (by omega)⟩)
  exact L26 _ _ _ rfl (⟨0, rfl, Or.inr rfl, HD_of hH1 (by rw [jx_u_r _ _ _ (by omega), jx_u_r _ _ _ (by omega)]) (by rw [jx_u_r _ _ _ (by omega), jx_u_r _ _ _ (by omega)]), by
    rw [jx_u_k _ _ _ _ (by omega), jx_u_s]
    have hr9 := rs_rng (r := Lr l) (J := J) (b := 24) (fun k hk => by
      obtain ⟨e1, m1⟩ := RW_gd hJ (i := k) (by omega)
      obtain ⟨e2, m2⟩ := RW_gd hJ (i := k + 1) (by omega)
      exact (hW.2.2.1 _ _ (hJn _ m1) (hJn _ m2)).1) (J.length - 1)
    rcases hx with ⟨_, hx⟩ | ⟨hx, _⟩
    · rw [hx]
      by_cases hz : J.length = 0
      · rw [show J.length - 1 = 0 by omega]; exact jy_toInt (by simp [rs])
      · have := hr9 (by omega); exact jy_toInt (by omega)
    · exact absurd hRJ hx, by rw [jx_u_s]; rfl, fun k hk => by omega, by rw [jx_u_r _ _ _ (by omega), jx_u_r _ _ _ (by omega), hF1 (a0 + 6) (by omega)], FR2_u (FR2_u (FR2_l FR2_refl hF1 (by omega) (by omega)) (by omega) (by omega)) (by omega) (by omega)⟩)
