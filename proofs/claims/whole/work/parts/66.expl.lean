/-! ===== what explains the lines: the reference ===== -/
/-- the guess of a way: digits to the base 6 of n camels, the first the highest -/
def gw (n w c : Nat) : Int := if c < n then ((w / 6 ^ (n - 1 - c) % 6 : Nat) : Int) else 0
theorem gw_rng (n w c : Nat) : 0 ≤ gw n w c ∧ gw n w c ≤ 5 := by
  unfold gw
  split
  · have := Nat.mod_lt (w / 6 ^ (n - 1 - c)) (show 6 > 0 by omega)
    omega
  · omega
/-- is a line so, are all -/
def lok (l : LT) (n w : Nat) (e : Nat × Int) : Bool := decide (hlt (Lc l) ((bl e.1 8).map (gw n w)) 1 = e.2)
def aok (l : LT) (c : CT) (n w : Nat) : Bool := (CN c).all (lok l n w)
/-- those below k that have grief by g -/
def gbp (g : Nat → Int) : Nat → Nat
  | 0 => 0
  | k + 1 => if 0 < g k then gbp g k ||| 2 ^ k else gbp g k
theorem gbp_t (g : Nat → Int) (i : Nat) : ∀ k, (gbp g k).testBit i = decide (i < k ∧ 0 < g i)
  | 0 => by simp [gbp]
  | k + 1 => by
    have h := gbp_t g i k
    unfold gbp
    by_cases e : 0 < g k
    · rw [if_pos e, Nat.testBit_or, h, Nat.testBit_two_pow, ← Bool.decide_or]
      apply decide_eq_decide.mpr
      constructor
      · rintro (h1 | h1)
        · exact ⟨by omega, h1.2⟩
        · rw [← h1]; exact ⟨by omega, e⟩
      · intro h1
        by_cases e2 : k = i
        · exact Or.inr e2
        · exact Or.inl ⟨by omega, h1.2⟩
    · rw [if_neg e, h]
      apply decide_eq_decide.mpr
      constructor
      · intro h1; exact ⟨by omega, h1.2⟩
      · intro h1
        by_cases e2 : i = k
        · rw [e2] at h1; exact absurd h1.2 e
        · exact ⟨by omega, h1.2⟩
theorem gbp_lt (g : Nat → Int) {k n : Nat} (h : k ≤ n) : gbp g k < 2 ^ n := by
  apply Nat.lt_pow_two_of_testBit
  intro i hi
  rw [gbp_t]
  exact decide_eq_false (by omega)
/-- found ways, the first, those that have grief by all, by any -/
abbrev ES : Type := Nat × Int × Nat × Nat
def stp (l : LT) (c : CT) (n w : Nat) (s : ES) : ES := if aok l c n w = true then (s.1 + 1, (if s.1 = 0 then (w : Int) else s.2.1), s.2.2.1 &&& gbp (gw n w) n, s.2.2.2 ||| gbp (gw n w) n) else s
def exs (l : LT) (c : CT) (n w0 : Nat) : Nat → ES → ES
  | 0, s => s
  | t + 1, s => stp l c n (w0 + t) (exs l c n w0 t s)
def es0 (n : Nat) : ES := (0, -1, 2 ^ n - 1, 0)
def mn6 (l : LT) : Nat := min (Lm l) 6
def exr (l : LT) (c : CT) : ES := exs l c (mn6 l) 0 (6 ^ mn6 l) (es0 (mn6 l))
def exa (l : LT) (c : CT) (a : Int) : Int := if a = 0 then ((exr l c).1 : Int) else if a = 1 then (exr l c).2.1 else if a = 2 then (if (exr l c).1 = 0 then 0 else ((exr l c).2.2.1 : Int)) else (if (exr l c).1 = 0 then 0 else (bdf (2 ^ mn6 l - 1) (exr l c).2.2.2 : Int))
/-- a state in range -/
def esk (n : Nat) (s : ES) : Prop := s.1 ≤ 46656 ∧ (-1 ≤ s.2.1 ∧ s.2.1 < 46656) ∧ s.2.2.1 < 2 ^ n ∧ s.2.2.2 < 2 ^ n
theorem esk_0 (n : Nat) : esk n (es0 n) := ⟨Nat.zero_le _, by show -1 ≤ (-1 : Int) ∧ (-1 : Int) < 46656; decide, by show 2 ^ n - 1 < 2 ^ n; have := Nat.two_pow_pos n; omega, Nat.two_pow_pos n⟩
theorem esk_t {l : LT} {c : CT} {n : Nat} {w0 : Nat} {s : ES} (hs : esk n s) : ∀ t, s.1 + t ≤ 46656 → w0 + t ≤ 46656 → esk n (exs l c n w0 t s) ∧ (exs l c n w0 t s).1 ≤ s.1 + t
  | 0, _, _ => ⟨hs, Nat.le_refl _⟩
  | t + 1, h1, h2 => by
    obtain ⟨h3, h4⟩ := esk_t (l := l) (c := c) (w0 := w0) hs t (by omega) (by omega)
    unfold exs stp
    split
    · refine ⟨⟨by show _ + 1 ≤ 46656; omega, ?_, ?_, ?_⟩, by show _ + 1 ≤ s.1 + (t + 1); omega⟩
      · show -1 ≤ (if (exs l c n w0 t s).1 = 0 then ((w0 + t : Nat) : Int) else (exs l c n w0 t s).2.1) ∧ (if (exs l c n w0 t s).1 = 0 then ((w0 + t : Nat) : Int) else (exs l c n w0 t s).2.1) < 46656
        split
        · have h9 : w0 + t < 46656 := by omega
          exact ⟨Int.le_trans (by decide) (Int.natCast_nonneg (w0 + t)), Int.ofNat_lt.mpr h9⟩
        · exact h3.2.1
      · exact Nat.lt_of_le_of_lt Nat.and_le_left h3.2.2.1
      · exact Nat.or_lt_two_pow h3.2.2.2 (gbp_lt _ (Nat.le_refl _))
    · exact ⟨h3, by omega⟩
theorem pow6_le {n : Nat} (h : n ≤ 6) : 6 ^ n ≤ 46656 := (Nat.pow_le_pow_right (by omega) h : 6 ^ n ≤ 6 ^ 6)
theorem jz_div6 {x : Nat} (h : x < 100000) : (Int32.ofInt (x : Int) / Int32.ofInt 6).toInt = ((x / 6 : Nat) : Int) := by
  rw [Int32.toInt_div, jy_toInt (by omega), jy_toInt (by omega), Int.tdiv_eq_ediv_of_nonneg (by omega), Int.bmod_eq_of_le (by omega) (by omega)]
  omega
theorem jz_rem6 {x : Nat} (h : x < 100000) : (Int32.ofInt (x : Int) - Int32.ofInt (x : Int) / Int32.ofInt 6 * Int32.ofInt 6).toInt = ((x % 6 : Nat) : Int) := by
  have h1 : Int32.ofInt (x : Int) / Int32.ofInt 6 = Int32.ofInt ((x / 6 : Nat) : Int) := Int32.toInt_inj.mp (by rw [jz_div6 h, jy_toInt (by omega)])
  rw [h1, ← Int32.ofInt_mul, ← Int32.ofInt_sub, jy_toInt (by omega)]
  omega
/-- GrievingCamelsModel.guessed -/
theorem cz_284 {V : jx_V} (hV : V.1.stackTraces = false) {X : jx_X} {R : jx_R} {I : jx_I} {a0 : Nat} {a1 : Int} {l : LT} {B : Nat} {g v : Nat → Int}
    (hM : MX X R a0) (hD : MD I a0 l) (hW : WT l) (h1 : a1 = (B : Int)) (hB : B < 2 ^ Lm l) (hg : ∀ e, e < Lm l → (I (a0 + 1370) e).toInt = g e ∧ 0 ≤ g e ∧ g e ≤ 5) (hv : v = vl ((bl B (Lm l)).map g))
    {QE : String → jx_I → Prop} : jc V 2 284 (0, 0) [.ref a0, jy a1] X I R (fun rv I' => rv = some (jy (hlt (Lc l) ((bl B (Lm l)).map g) 1)) ∧ FR (a0 + 1286) (a0 + 1287) I I') QE := by
  have hW0 := hW.1
  have hn := hW.1
  have hWL := hW.2.2.2.2.2
  have hcl := hWL.1
  have hB8 : B < 256 := Nat.lt_of_lt_of_le hB (Nat.pow_le_pow_right (by omega) hn.2 : 2 ^ Lm l ≤ 2 ^ 8)
  have hgr : ∀ k, k ≤ Lm l → ∀ x ∈ (bl B k).map g, 0 ≤ x ∧ x ≤ 20 := fun k hk x hx => by
    obtain ⟨e, he, rfl⟩ := List.mem_map.mp hx
    have := (hg e (by have := (bl_mem.mp he).1; omega)).2
    omega
  have hgl : ∀ k, k ≤ Lm l → ((bl B k).map g).length ≤ 8 := fun k hk => by rw [List.length_map]; have := bl_len B k; omega
  have hvr : ∀ k, k < 5 → -2147483648 ≤ v k ∧ v k < 2147483648 := fun k hk => by
    have h6 := vl_many0 ((bl B (Lm l)).map g)
    have h7 := vl_rng _ (hgr (Lm l) (Nat.le_refl _))
    have h8 := hgl (Lm l) (Nat.le_refl _)
    rw [hv]
    rcases (by omega : k = 0 ∨ k = 1 ∨ k = 2 ∨ k = 3 ∨ k = 4) with e | e | e | e | e <;> rw [e] <;> omega
  refine wm_284 hV (by omega)  (fun J19 J50 J72 J90 J99 J115 J214 J299 J300 hJJ => ?_)
  obtain ⟨hJ19, hJ50, hJ72, hJ90, hJ99, hJ115, hJ214, hJ299, hJ300⟩ := hJJ
  subst h1
  unfold wz_284
  have L19 : ∀ (n19 : Nat) (l2 : Int) (l3 : Int) (l4 : Int) (l5 : Int) (l6 : Int) (l7 : Int) (l8 : Int) (K : jx_I), n19 = ((Lm l : Int) - l8).toNat → (∃ i : Nat, l8 = (i : Int) ∧ i ≤ Lm l ∧ l2 = vl ((bl B i).map g) 0 ∧ l3 = vl ((bl B i).map g) 1 ∧ l4 = vl ((bl B i).map g) 2 ∧ l5 = vl ((bl B i).map g) 3 ∧ l6 = vl ((bl B i).map g) 4 ∧ l7 = 0 ∧ K = I) → J19 l2 l3 l4 l5 l6 l7 l8 K := by
    intro n19
    induction n19 using Nat.strongRecOn with
    | ind n19 ih19 =>
    intro l2 l3 l4 l5 l6 l7 l8 K hn19 hI19
    obtain ⟨i, rfl, hi, rfl, rfl, rfl, rfl, rfl, rfl, hKI⟩ := hI19
    replace hKI := hKI.symm
    subst hKI
    have h41 := hD.1.2
    have hr5 := vl_rng _ (hgr i hi)
    have hr6 := vl_many0 ((bl B i).map g)
    have hr7 := hgl i hi
    refine hJ19 _ _ _ _ _ _ _ _ ?_
    unfold wz_284_19
    refine ⟨s_M_0 hM, _, r_M_11 hM, _, ⟨s_M_4 hM, by decide⟩, ?_⟩
    try simp only [-eq_self, show (1 : Int).toNat = 1 from rfl, h41]
    refine ⟨by omega, by omega, ?_⟩
    refine ⟨fun hq1 => ?_, fun hq1 => ?_⟩
    · have hiB : i = Lm l := by omega
      refine ⟨by omega, ?_⟩
      refine ⟨fun hq2 => ?_, fun hq2 => ?_⟩
      · have hv4 : v 4 = vl ((bl B i).map g) 4 := by rw [hv, ← hiB]
        have L115 : ∀ (n115 : Nat) (l2 : Int) (l3 : Int) (l4 : Int) (l5 : Int) (l6 : Int) (l7 : Int) (l8 : Int) (K : jx_I), n115 = (((Lc l).length : Int) - l8).toNat → (∃ (i : Nat) (st : List Int), l2 = v 0 ∧ l3 = v 1 ∧ l4 = v 2 ∧ l5 = v 3 ∧ l6 = v 4 ∧ l8 = (i : Int) ∧ i ≤ (Lc l).length ∧ ((Lc l).take i).foldl (rkS v) [] = st ∧ l7 = st.length ∧ SK K (a0 + 1286) st ∧ FR (a0 + 1286) (a0 + 1287) I K) → J115 l2 l3 l4 l5 l6 l7 l8 K := by
          intro n115
          induction n115 using Nat.strongRecOn with
          | ind n115 ih115 =>
          intro l2 l3 l4 l5 l6 l7 l8 K hn115 hI115
          obtain ⟨i, st, rfl, rfl, rfl, rfl, rfl, rfl, hi, hst, rfl, hK, hF⟩ := hI115
          have hd := rk_len hWL v i hi
          rw [hst] at hd
          have hDK : MD K a0 l := MD_of hD (by rw [hF a0 (by omega)]) (fun q h1 h2 => hF q (by omega)) hW
          have hm2 := hDK.2.2.2.2.1
          refine hJ115 _ _ _ _ _ _ _ _ ?_
          unfold wz_284_115
          refine ⟨s_M_0 hM, by omega, ?_⟩
          refine ⟨fun hq3 => ?_, fun hq3 => ?_⟩
          · rw [List.take_of_length_le (by omega)] at hst hd
            have h9 := hWL.2.1
            have hbot := SK_bot hK (by omega)
            have hbr := jy_rng (K (a0 + 1286) 0)
            rw [hbot, ← hst] at hbr
            rw [← hst] at hbot
            have hrk : ((Lc l).foldl (rkS v) []).getLastD 0 = rk v (Lc l) := rfl
            rw [hrk] at hbot hbr
            refine ⟨_, r_M_28 hM, _, ⟨s_M_1286 hM, by decide⟩, ?_⟩
            try simp only [-eq_self, show (0 : Int).toNat = 0 from rfl, hbot]
            refine ⟨by omega, ?_⟩
            refine ⟨fun hq4 => ?_, fun hq4 => ?_⟩
            · refine ⟨by omega, ?_⟩
              refine ⟨_, cz_204 hV (by omega) (by omega), ?_⟩
              rintro _ I27 ⟨rfl, e9⟩; replace e9 := e9.symm; subst e9
              refine ⟨_, rfl, ?_⟩
              refine ⟨?_, hF⟩
              unfold hlt
              rw [← hv, if_neg (by omega)]
              congr 2; omega
            · refine ⟨?_, hF⟩
              unfold hlt
              rw [← hv, if_neg (by omega)]
              congr 2; omega
          · have hi2 : i < (Lc l).length := by omega
            have hc := List.getElem?_eq_getElem (l := Lc l) (i := i) hi2
            generalize (Lc l)[i] = c at hc
            obtain ⟨w1, w2, w3⟩ := hDK.2.2.2.2.2 i c hc
            obtain ⟨hc0, hc1, hc2, hc3⟩ := hWL.2.2 i c hc
            have hs2 : ((Lc l).take (i + 1)).foldl (rkS v) [] = rkS v st c := by rw [ls_last hc, List.foldl_append, hst]; rfl
            refine ⟨_, r_M_26 hM, _, ⟨s_M_44 hM, by decide⟩, by omega, _, rr_M_44 hM (by omega), _, ⟨sr_M_44 hM (by omega), by decide⟩, ?_⟩
            try simp only [-eq_self, Int.toNat_natCast, show (1 : Int).toNat = 1 from rfl]
            refine ⟨by omega, by omega, _, rr_M_44 hM (by omega), _, ⟨sr_M_44 hM (by omega), by decide⟩, ?_⟩
            try simp only [-eq_self, Int.toNat_natCast, show (0 : Int).toNat = 0 from rfl]
            refine ⟨by omega, ?_⟩
            refine ⟨fun hq5 => ?_, fun hq5 => ?_⟩
            · have hc5 : 105 ≤ c := by
                rcases Int.lt_or_le c 100 with h | h
                · have := (w1 h).1; omega
                · rcases Int.lt_or_le c 105 with h2 | h2
                  · have := (w2 h h2).1; omega
                  · exact h2
              have w3 := w3 hc5
              have hl2 : 2 ≤ st.length := by have := hc3 hc5; omega
              match st, hl2 with
              | y :: x :: r, _ =>
              have hl9 : (y :: x :: r).length = r.length + 2 := rfl
              obtain ⟨hp1, hp2⟩ := SK_pop hK
              obtain ⟨hp3, hp4⟩ := SK_pop hp1
              have hl8 : (x :: r).length = r.length + 1 := rfl
              rw [hl8] at hp2
              rw [hl9] at hd ⊢
              have hi3 : (((r.length + 2 : Nat) : Int) + -1 - 1).toNat = r.length := by omega
              have hi4 : (((r.length + 2 : Nat) : Int) + -1).toNat = r.length + 1 := by omega
              have hfin : ∀ z : Int, w32 z = rkop c x y → SK (jx_u K (a0 + 1286) r.length (Int32.ofInt z)) (a0 + 1286) (rkS v (y :: x :: r) c) := by
                intro z hz
                have e : rkS v (y :: x :: r) c = rkop c x y :: r := by unfold rkS; rw [if_neg (by omega), if_neg (by omega)]
                rw [e]
                refine SK_push hp3 ?_ (fun k hk => jx_u_k _ _ _ _ (by omega))
                rw [jx_u_s]
                exact hz
              have hlen : (rkS v (y :: x :: r) c).length = r.length + 1 := by unfold rkS; rw [if_neg (by omega), if_neg (by omega)]; rfl
              refine ⟨_, r_M_28 hM, _, ⟨s_M_1286 hM, by decide⟩, by omega, by omega, by omega, _, rr_M_44 hM (by omega), _, ⟨sr_M_44 hM (by omega), by decide⟩, ?_⟩
              try simp only [-eq_self, Int.toNat_natCast, show (0 : Int).toNat = 0 from rfl, w3]
              refine ⟨by omega, ?_⟩
              refine ⟨fun hq6 => ?_, fun hq6 => ?_⟩
              · refine ⟨by omega, _, rr_M_44 hM (by omega), _, ⟨sr_M_44 hM (by omega), by decide⟩, ?_⟩
                try simp only [-eq_self, Int.toNat_natCast, show (0 : Int).toNat = 0 from rfl, w3]
                refine ⟨by omega, ?_⟩
                refine ⟨fun hq7 => ?_, fun hq7 => ?_⟩
                · refine hJ299 _ _ _ _ _ _ _ _ _ _ _ ?_
                  unfold wz_284_299
                  refine ⟨_, ⟨s_M_1286 hM, by decide⟩, by omega, ?_⟩
                  intro I78 e_I78; subst e_I78
                  refine hJ300 _ _ _ _ _ _ _ _ ?_
                  unfold wz_284_300
                  simp only [-eq_self, hi3, hi4, hp2, hp4]
                  exact ih115 _ (by omega) _ _ _ _ _ _ _ _ rfl (⟨i + 1, _, rfl, rfl, rfl, rfl, rfl, by omega, by omega, hs2, by rw [hlen]; omega, hfin _ (by unfold rkop; rw [if_neg (by omega), if_neg (by omega)]), FR_u hF (by omega) (by omega)⟩)
                · refine hJ299 _ _ _ _ _ _ _ _ _ _ _ ?_
                  unfold wz_284_299
                  refine ⟨_, ⟨s_M_1286 hM, by decide⟩, by omega, ?_⟩
                  intro I78 e_I78; subst e_I78
                  refine hJ300 _ _ _ _ _ _ _ _ ?_
                  unfold wz_284_300
                  simp only [-eq_self, hi3, hi4, hp2, hp4]
                  exact ih115 _ (by omega) _ _ _ _ _ _ _ _ rfl (⟨i + 1, _, rfl, rfl, rfl, rfl, rfl, by omega, by omega, hs2, by rw [hlen]; omega, hfin _ (by unfold rkop; rw [if_neg (by omega), if_pos (by omega)]), FR_u hF (by omega) (by omega)⟩)
              · refine hJ299 _ _ _ _ _ _ _ _ _ _ _ ?_
                unfold wz_284_299
                refine ⟨_, ⟨s_M_1286 hM, by decide⟩, by omega, ?_⟩
                intro I78 e_I78; subst e_I78
                refine hJ300 _ _ _ _ _ _ _ _ ?_
                unfold wz_284_300
                simp only [-eq_self, hi3, hi4, hp2, hp4]
                exact ih115 _ (by omega) _ _ _ _ _ _ _ _ rfl (⟨i + 1, _, rfl, rfl, rfl, rfl, rfl, by omega, by omega, hs2, by rw [hlen]; omega, hfin _ (by unfold rkop; rw [if_pos (by omega)]), FR_u hF (by omega) (by omega)⟩)
            · have hc5 : c < 105 := by
                rcases Int.lt_or_le c 105 with h2 | h2
                · exact h2
                · have := w3 h2; omega
              have hcd := hc2 hc5
              refine ⟨_, r_M_28 hM, by omega, _, rr_M_44 hM (by omega), _, ⟨sr_M_44 hM (by omega), by decide⟩, ?_⟩
              try simp only [-eq_self, Int.toNat_natCast, show (0 : Int).toNat = 0 from rfl]
              refine ⟨by omega, ?_⟩
              refine ⟨fun hq8 => ?_, fun hq8 => ?_⟩
              · have hc6 : 100 ≤ c := by
                  rcases Int.lt_or_le c 100 with h | h
                  · have := (w1 h).1; omega
                  · exact h
                have w2 := w2 hc6 hc5
                simp only [-eq_self, w2.2]
                refine ⟨fun hq9 => ?_, fun hq9 => ?_⟩
                · refine ⟨fun hq10 => ?_, fun hq10 => ?_⟩
                  · refine ⟨fun hq11 => ?_, fun hq11 => ?_⟩
                    · refine ⟨fun hq12 => ?_, fun hq12 => ?_⟩
                      · refine hJ214 _ _ _ _ _ _ _ _ _ _ _ ?_
                        unfold wz_284_214
                        refine ⟨_, ⟨s_M_1286 hM, by decide⟩, by omega, ?_⟩
                        intro I74 e_I74; subst e_I74
                        refine hJ300 _ _ _ _ _ _ _ _ ?_
                        unfold wz_284_300
                        exact ih115 _ (by omega) _ _ _ _ _ _ _ _ rfl (⟨i + 1, _, rfl, rfl, rfl, rfl, rfl, by omega, by omega, hs2, by unfold rkS; rw [if_neg (by omega), if_pos (by omega)]; simp, by
                          unfold rkS
                          rw [if_neg (by omega), if_pos (by omega)]
                          refine SK_push hK ?_ (fun k hk => jx_u_k _ _ _ _ (by omega))
                          rw [Int.toNat_natCast, jx_u_s, show (c - 100).toNat = 4 by omega]; exact jy_toInt (hvr 4 (by omega)), FR_u hF (by omega) (by omega)⟩)
                      · refine hJ214 _ _ _ _ _ _ _ _ _ _ _ ?_
                        unfold wz_284_214
                        refine ⟨_, ⟨s_M_1286 hM, by decide⟩, by omega, ?_⟩
                        intro I74 e_I74; subst e_I74
                        refine hJ300 _ _ _ _ _ _ _ _ ?_
                        unfold wz_284_300
                        exact ih115 _ (by omega) _ _ _ _ _ _ _ _ rfl (⟨i + 1, _, rfl, rfl, rfl, rfl, rfl, by omega, by omega, hs2, by unfold rkS; rw [if_neg (by omega), if_pos (by omega)]; simp, by
                          unfold rkS
                          rw [if_neg (by omega), if_pos (by omega)]
                          refine SK_push hK ?_ (fun k hk => jx_u_k _ _ _ _ (by omega))
                          rw [Int.toNat_natCast, jx_u_s, show (c - 100).toNat = 3 by omega]; exact jy_toInt (hvr 3 (by omega)), FR_u hF (by omega) (by omega)⟩)
                    · refine hJ214 _ _ _ _ _ _ _ _ _ _ _ ?_
                      unfold wz_284_214
                      refine ⟨_, ⟨s_M_1286 hM, by decide⟩, by omega, ?_⟩
                      intro I74 e_I74; subst e_I74
                      refine hJ300 _ _ _ _ _ _ _ _ ?_
                      unfold wz_284_300
                      exact ih115 _ (by omega) _ _ _ _ _ _ _ _ rfl (⟨i + 1, _, rfl, rfl, rfl, rfl, rfl, by omega, by omega, hs2, by unfold rkS; rw [if_neg (by omega), if_pos (by omega)]; simp, by
                        unfold rkS
                        rw [if_neg (by omega), if_pos (by omega)]
                        refine SK_push hK ?_ (fun k hk => jx_u_k _ _ _ _ (by omega))
                        rw [Int.toNat_natCast, jx_u_s, show (c - 100).toNat = 2 by omega]; exact jy_toInt (hvr 2 (by omega)), FR_u hF (by omega) (by omega)⟩)
                  · refine hJ214 _ _ _ _ _ _ _ _ _ _ _ ?_
                    unfold wz_284_214
                    refine ⟨_, ⟨s_M_1286 hM, by decide⟩, by omega, ?_⟩
                    intro I74 e_I74; subst e_I74
                    refine hJ300 _ _ _ _ _ _ _ _ ?_
                    unfold wz_284_300
                    exact ih115 _ (by omega) _ _ _ _ _ _ _ _ rfl (⟨i + 1, _, rfl, rfl, rfl, rfl, rfl, by omega, by omega, hs2, by unfold rkS; rw [if_neg (by omega), if_pos (by omega)]; simp, by
                      unfold rkS
                      rw [if_neg (by omega), if_pos (by omega)]
                      refine SK_push hK ?_ (fun k hk => jx_u_k _ _ _ _ (by omega))
                      rw [Int.toNat_natCast, jx_u_s, show (c - 100).toNat = 1 by omega]; exact jy_toInt (hvr 1 (by omega)), FR_u hF (by omega) (by omega)⟩)
                · refine hJ214 _ _ _ _ _ _ _ _ _ _ _ ?_
                  unfold wz_284_214
                  refine ⟨_, ⟨s_M_1286 hM, by decide⟩, by omega, ?_⟩
                  intro I74 e_I74; subst e_I74
                  refine hJ300 _ _ _ _ _ _ _ _ ?_
                  unfold wz_284_300
                  exact ih115 _ (by omega) _ _ _ _ _ _ _ _ rfl (⟨i + 1, _, rfl, rfl, rfl, rfl, rfl, by omega, by omega, hs2, by unfold rkS; rw [if_neg (by omega), if_pos (by omega)]; simp, by
                    unfold rkS
                    rw [if_neg (by omega), if_pos (by omega)]
                    refine SK_push hK ?_ (fun k hk => jx_u_k _ _ _ _ (by omega))
                    rw [Int.toNat_natCast, jx_u_s, show (c - 100).toNat = 0 by omega]; exact jy_toInt (hvr 0 (by omega)), FR_u hF (by omega) (by omega)⟩)
              · have hc6 : c < 100 := by
                  rcases Int.lt_or_le c 100 with h | h
                  · exact h
                  · have := (w2 h hc5).1; omega
                have w1 := w1 hc6
                simp only [-eq_self, w1.2]
                refine hJ214 _ _ _ _ _ _ _ _ _ _ _ ?_
                unfold wz_284_214
                refine ⟨_, ⟨s_M_1286 hM, by decide⟩, by omega, ?_⟩
                intro I74 e_I74; subst e_I74
                refine hJ300 _ _ _ _ _ _ _ _ ?_
                unfold wz_284_300
                exact ih115 _ (by omega) _ _ _ _ _ _ _ _ rfl (⟨i + 1, _, rfl, rfl, rfl, rfl, rfl, by omega, by omega, hs2, by unfold rkS; rw [if_pos (by omega)]; simp, by
                  unfold rkS
                  rw [if_pos (by omega)]
                  refine SK_push hK ?_ (fun k hk => jx_u_k _ _ _ _ (by omega))
                  rw [Int.toNat_natCast, jx_u_s]; exact jy_toInt (by omega), FR_u hF (by omega) (by omega)⟩)
        exact L115 _ _ _ _ _ _ _ _ _ rfl (⟨0, [], by rw [hv, ← hiB], by rw [hv, ← hiB], by rw [hv, ← hiB], by rw [hv, ← hiB], by rw [hv, ← hiB], rfl, by omega, rfl, rfl, fun k x h => by simp at h, FR_refl⟩)
      · refine ⟨?_, FR_refl⟩
        unfold hlt
        rw [if_pos (by rw [← hiB]; omega)]
    · have hbit := jz_bit (B := B) (k := i) (by omega) (by omega)
      simp only [-eq_self, hbit]
      have h01 := bN_01 B i
      have hgi := hg i (by omega)
      have vs := vl_step (gs := (bl B i).map g) hgi.2.1
      refine ⟨fun hq13 => ?_, fun hq13 => ?_⟩
      · have hls : (bl B (i + 1)).map g = (bl B i).map g ++ [g i] := by rw [bl_1 (by omega), List.map_append]; rfl
        refine ⟨_, r_M_55 hM, _, ⟨s_M_1370 hM, by decide⟩, ?_⟩
        try simp only [-eq_self, Int.toNat_natCast, hgi.1]
        refine ⟨by omega, ?_⟩
        refine hJ50 _ _ _ _ _ _ _ _ _ ?_
        unfold wz_284_50
        refine ⟨by omega, ?_⟩
        refine ⟨fun hq14 => ?_, fun hq14 => ?_⟩
        · simp only [if_neg hq14] at vs
          refine ⟨by omega, ?_⟩
          refine ⟨fun hq15 => ?_, fun hq15 => ?_⟩
          · refine hJ72 _ _ _ _ _ _ _ _ ?_
            unfold wz_284_72
            refine ⟨by omega, ?_⟩
            refine ⟨fun hq16 => ?_, fun hq16 => ?_⟩
            · refine hJ90 _ _ _ _ _ _ _ _ ?_
              unfold wz_284_90
              refine hJ99 _ _ _ _ _ _ _ _ ?_
              unfold wz_284_99
              exact ih19 _ (by omega) _ _ _ _ _ _ _ _ rfl (⟨i + 1, by omega, by omega, by rw [hls, vs.1]; omega, by rw [hls, vs.2.1], by rw [hls, vs.2.2.1, if_neg hq16], by rw [hls, vs.2.2.2.1], by rw [hls, vs.2.2.2.2], rfl, rfl⟩)
            · refine hJ90 _ _ _ _ _ _ _ _ ?_
              unfold wz_284_90
              refine hJ99 _ _ _ _ _ _ _ _ ?_
              unfold wz_284_99
              exact ih19 _ (by omega) _ _ _ _ _ _ _ _ rfl (⟨i + 1, by omega, by omega, by rw [hls, vs.1]; omega, by rw [hls, vs.2.1], by rw [hls, vs.2.2.1, if_pos hq16], by rw [hls, vs.2.2.2.1], by rw [hls, vs.2.2.2.2], rfl, rfl⟩)
          · refine hJ72 _ _ _ _ _ _ _ _ ?_
            unfold wz_284_72
            refine ⟨by omega, ?_⟩
            refine ⟨fun hq17 => ?_, fun hq17 => ?_⟩
            · refine hJ90 _ _ _ _ _ _ _ _ ?_
              unfold wz_284_90
              refine hJ99 _ _ _ _ _ _ _ _ ?_
              unfold wz_284_99
              exact ih19 _ (by omega) _ _ _ _ _ _ _ _ rfl (⟨i + 1, by omega, by omega, by rw [hls, vs.1]; omega, by rw [hls, vs.2.1], by rw [hls, vs.2.2.1, if_neg hq17], by rw [hls, vs.2.2.2.1], by rw [hls, vs.2.2.2.2], rfl, rfl⟩)
            · refine hJ90 _ _ _ _ _ _ _ _ ?_
              unfold wz_284_90
              refine hJ99 _ _ _ _ _ _ _ _ ?_
              unfold wz_284_99
              exact ih19 _ (by omega) _ _ _ _ _ _ _ _ rfl (⟨i + 1, by omega, by omega, by rw [hls, vs.1]; omega, by rw [hls, vs.2.1], by rw [hls, vs.2.2.1, if_pos hq17], by rw [hls, vs.2.2.2.1], by rw [hls, vs.2.2.2.2], rfl, rfl⟩)
        · simp only [if_pos hq14] at vs
          refine hJ99 _ _ _ _ _ _ _ _ ?_
          unfold wz_284_99
          exact ih19 _ (by omega) _ _ _ _ _ _ _ _ rfl (⟨i + 1, by omega, by omega, by rw [hls, vs.1], by rw [hls, vs.2.1], by rw [hls, vs.2.2.1], by rw [hls, vs.2.2.2.1], by rw [hls, vs.2.2.2.2], rfl, rfl⟩)
      · have hls : (bl B (i + 1)).map g = (bl B i).map g := by rw [bl_0 (by omega)]
        refine hJ50 _ _ _ _ _ _ _ _ _ ?_
        unfold wz_284_50
        refine ⟨by omega, ?_⟩
        refine ⟨fun hq18 => ?_, fun hq18 => ?_⟩
        · exact absurd rfl hq18
        · refine hJ99 _ _ _ _ _ _ _ _ ?_
          unfold wz_284_99
          exact ih19 _ (by omega) _ _ _ _ _ _ _ _ rfl (⟨i + 1, by omega, by omega, by rw [hls], by rw [hls], by rw [hls], by rw [hls], by rw [hls], rfl, rfl⟩)
  exact L19 _ _ _ _ _ _ _ _ _ rfl (⟨0, rfl, by omega, (vl_nil 0).symm, (vl_nil 1).symm, (vl_nil 2).symm, (vl_nil 3).symm, (vl_nil 4).symm, rfl, rfl⟩)
