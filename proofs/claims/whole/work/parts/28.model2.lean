/-! ===== the reference: what a coming does, journeys ===== -/
/-- a map of the row's cells under way, camel by camel -/
def mq (f : GT) (L : List Nat) (i p : Nat) (g : GT) : GT := fun q c => if c ∈ L.take i ∨ (L[i]? = some c ∧ q < p) then f q c else g q c
theorem mq_at {f g : GT} {L : List Nat} {i p y : Nat} (hn : L.Nodup) (hy : L[i]? = some y) : mq f L i p g p y = g p y := by
  unfold mq
  rw [if_neg]
  rintro (h | h)
  · exact nd_at hn hy h
  · omega
theorem mq_step {f g : GT} {L : List Nat} {i p y : Nat} (hy : L[i]? = some y) : mq f L i (p + 1) g = gu (mq f L i p g) p y (f p y) := by
  funext q c
  unfold mq gu
  by_cases e : q = p ∧ c = y
  · rw [if_pos e, e.1, e.2, if_pos (Or.inr ⟨hy, by omega⟩)]
  · rw [if_neg e]
    by_cases e2 : c = y
    · subst e2
      have h1 : q ≠ p := fun h => e ⟨h, rfl⟩
      have h2 : (q < p + 1) ↔ q < p := by omega
      simp [hy, h2]
    · have h3 : ¬ L[i]? = some c := by rw [hy]; intro h; exact e2 (Option.some.inj h).symm
      simp [h3]
theorem mq_next {f g : GT} {L : List Nat} {i n y q c : Nat} (hy : L[i]? = some y) (hq : q < n) : mq f L (i + 1) 0 g q c = mq f L i n g q c := by
  unfold mq
  rw [ls_last hy]
  by_cases e : c = y
  · subst e
    simp [hy, hq]
  · have h3 : ¬ L[i]? = some c := by rw [hy]; intro h; exact e (Option.some.inj h).symm
    simp [h3, e]
theorem mq_0 {f g : GT} {L : List Nat} : mq f L 0 0 g = g := by
  funext q c
  unfold mq
  simp
theorem mq_end {f g : GT} {L : List Nat} {i q c : Nat} (hi : L.length ≤ i) : mq f L i 0 g q c = if c ∈ L then f q c else g q c := by
  unfold mq
  rw [List.take_of_length_le hi]
  simp
/-- GrievingCamelsModel.feeds -/
theorem cz_253 {V : jx_V} (hV : V.1.stackTraces = false) {X : jx_X} {R : jx_R} {I : jx_I} {a0 : Nat} {l : LT} {L : List Nat} {g d : GT}
    (hM : MX X R a0) (hD : MD I a0 l) (hW : WT l) (hN : MN I a0 l L g d) (hG : GDn (Ln l) (Lm l) g d) (hLm : ∀ c ∈ L, c < Lm l) (hL8 : L.length ≤ 8) (hnd : L.Nodup)
    {QE : String → jx_I → Prop} : jc V 1 253 (0, 0) [.ref a0] X I R (fun rv I' => rv = none ∧ MH I' (a0 + 1347) (Ln l) (Lm l) (fod L g) ∧ FR (a0 + 1347) (a0 + 1355) I I') QE := by
  have hW0 := hW.1
  refine wm_253 hV   (fun J2 J12 J57 hJJ => ?_)
  obtain ⟨hJ2, hJ12, hJ57⟩ := hJJ
  have hn := hW.1
  have hm := hN.1.1
  unfold wz_253
  have L2 : ∀ (n2 : Nat) (l1 : Int) (K : jx_I), n2 = ((L.length : Int) - l1).toNat → (∃ i : Nat, l1 = i ∧ i ≤ L.length ∧ MH K (a0 + 1347) (Ln l) (Lm l) (mq (fun q c => max 0 (g q c - 1)) L i 0 g) ∧ FR (a0 + 1347) (a0 + 1355) I K) → J2 l1 K := by
    intro n2
    induction n2 using Nat.strongRecOn with
    | ind n2 ih2 =>
    intro l1 K hn2 hI2
    obtain ⟨i, rfl, hi, hK, hF⟩ := hI2
    have hm1 : (K a0 46).toInt = L.length := by rw [hF a0 (by omega)]; exact hm
    refine hJ2 _ _ ?_
    unfold wz_253_2
    refine ⟨s_M_0 hM, by omega, ?_⟩
    refine ⟨fun hq1 => ?_, fun hq1 => ?_⟩
    · exact ⟨rfl, MH_eq hK (fun q c hq hc => by rw [mq_end (by omega)]; rfl), hF⟩
    · have L12 : ∀ (n12 : Nat) (l1 : Int) (l2 : Int) (K2 : jx_I), n12 = ((Ln l : Int) - l2).toNat → (∃ p : Nat, l1 = (i : Int) ∧ l2 = p ∧ i < L.length ∧ p ≤ Ln l ∧ MH K2 (a0 + 1347) (Ln l) (Lm l) (mq (fun q c => max 0 (g q c - 1)) L i p g) ∧ FR (a0 + 1347) (a0 + 1355) I K2) → J12 l1 l2 K2 := by
        intro n12
        induction n12 using Nat.strongRecOn with
        | ind n12 ih12 =>
        intro l1 l2 K2 hn12 hI12
        obtain ⟨p, rfl, rfl, hi, hp, hK, hF⟩ := hI12
        have hNK : ML K2 a0 46 (a0 + 1364) L := ML_of hN.1 (by rw [hF a0 (by omega)]) (hF _ (by omega))
        have h4 : (K2 (a0 + 4) 0).toInt = Ln l := by rw [hF (a0 + 4) (by omega)]; exact hD.1.1
        obtain ⟨y, hy, hy2⟩ := ML_get hNK (i := i) (by omega)
        have hym : y ∈ L := List.mem_of_getElem? hy
        have hy8 := hLm y hym
        refine hJ12 _ _ _ ?_
        unfold wz_253_12
        refine ⟨s_M_0 hM, _, r_M_11 hM, _, ⟨s_M_4 hM, by decide⟩, ?_⟩
        try simp only [Int.toNat_zero, h4]
        refine ⟨by omega, by omega, ?_⟩
        refine ⟨fun hq2 => ?_, fun hq2 => ?_⟩
        · exact ih2 _ (by omega) _ _ rfl (⟨i + 1, by omega, by omega, MH_eq hK (fun q c hq hc => by rw [show p = Ln l by omega]; exact mq_next hy hq), hF⟩)
        · have hat := mq_at (f := (fun q c => max 0 (g q c - 1))) (g := g) (p := p) hnd hy
          have hcell := hK p y (by omega) hy8
          rw [hat] at hcell
          have hb := hG p y (by omega) hy8
          refine ⟨_, r_M_42 hM, _, r_M_44 hM, _, ⟨s_M_1364 hM, by decide⟩, ?_⟩
          try simp only [Int.toNat_natCast, hy2]
          refine ⟨by omega, _, ⟨s_M_1346 hM, by decide⟩, by omega, _, rr_M_1346 hM (by omega), _, ⟨sr_M_1346 hM (by omega), by decide⟩, ?_⟩
          try simp only [Int.toNat_natCast]
          refine ⟨by omega, by omega, by omega, _, rr_M_1346 hM (by omega), _, ⟨sr_M_1346 hM (by omega), by decide⟩, ?_⟩
          try simp only [Int.toNat_natCast, hcell]
          refine ⟨by omega, ?_⟩
          refine ⟨fun hq3 => ?_, fun hq3 => ?_⟩
          · refine hJ57 _ _ _ _ _ _ _ ?_
            unfold wz_253_57
            refine ⟨_, ⟨sr_M_1346 hM (by omega), by decide⟩, by omega, ?_⟩
            intro I35 e_I35; subst e_I35
            exact ih12 _ (by omega) _ _ _ rfl (⟨p + 1, rfl, by omega, hi, by omega, by rw [mq_step hy]; have := MH_u (p := p) (c := y) (v := g p y - 0) hK (by omega); rw [show max 0 (g p y - 1) = g p y - 0 by omega]; exact this, FR_u hF (by omega) (by omega)⟩)
          · refine hJ57 _ _ _ _ _ _ _ ?_
            unfold wz_253_57
            refine ⟨_, ⟨sr_M_1346 hM (by omega), by decide⟩, by omega, ?_⟩
            intro I35 e_I35; subst e_I35
            exact ih12 _ (by omega) _ _ _ rfl (⟨p + 1, rfl, by omega, hi, by omega, by rw [mq_step hy]; have := MH_u (p := p) (c := y) (v := g p y - 1) hK (by omega); rw [show max 0 (g p y - 1) = g p y - 1 by omega]; exact this, FR_u hF (by omega) (by omega)⟩)
      exact L12 _ _ _ _ rfl (⟨0, rfl, rfl, by omega, by omega, hK, hF⟩)
  exact L2 _ _ _ rfl (⟨0, rfl, by omega, by rw [mq_0]; exact hN.2.1, FR_refl⟩)
/-- GrievingCamelsModel.reminds -/
theorem cz_254 {V : jx_V} (hV : V.1.stackTraces = false) {X : jx_X} {R : jx_R} {I : jx_I} {a0 : Nat} {l : LT} {L : List Nat} {g d : GT}
    (hM : MX X R a0) (hD : MD I a0 l) (hW : WT l) (hN : MN I a0 l L g d) (hG : GDn (Ln l) (Lm l) g d) (hLm : ∀ c ∈ L, c < Lm l) (hL8 : L.length ≤ 8) (hnd : L.Nodup)
    {QE : String → jx_I → Prop} : jc V 2 254 (0, 0) [.ref a0] X I R (fun rv I' => rv = none ∧ MH I' (a0 + 1347) (Ln l) (Lm l) (slt L g d) ∧ FR (a0 + 1347) (a0 + 1355) I I') QE := by
  have hW0 := hW.1
  refine wm_254 hV   (fun J2 J12 J76 hJJ => ?_)
  obtain ⟨hJ2, hJ12, hJ76⟩ := hJJ
  have hn := hW.1
  have hm := hN.1.1
  unfold wz_254
  have L2 : ∀ (n2 : Nat) (l1 : Int) (K : jx_I), n2 = ((L.length : Int) - l1).toNat → (∃ i : Nat, l1 = i ∧ i ≤ L.length ∧ MH K (a0 + 1347) (Ln l) (Lm l) (mq (fun q c => if 0 < g q c ∧ g q c < d q c then g q c + 1 else g q c) L i 0 g) ∧ FR (a0 + 1347) (a0 + 1355) I K) → J2 l1 K := by
    intro n2
    induction n2 using Nat.strongRecOn with
    | ind n2 ih2 =>
    intro l1 K hn2 hI2
    obtain ⟨i, rfl, hi, hK, hF⟩ := hI2
    have hm1 : (K a0 46).toInt = L.length := by rw [hF a0 (by omega)]; exact hm
    refine hJ2 _ _ ?_
    unfold wz_254_2
    refine ⟨s_M_0 hM, by omega, ?_⟩
    refine ⟨fun hq1 => ?_, fun hq1 => ?_⟩
    · refine ⟨rfl, MH_eq hK (fun q c hq hc => ?_), hF⟩
      rw [mq_end (by omega)]
      unfold slt
      by_cases e : c ∈ L
      · rw [if_pos e]
        by_cases e2 : 0 < g q c ∧ g q c < d q c
        · rw [if_pos ⟨e, e2⟩, if_pos e2]
        · rw [if_neg (fun h => e2 h.2), if_neg e2]
      · rw [if_neg (fun h => e h.1), if_neg e]
    · have L12 : ∀ (n12 : Nat) (l1 : Int) (l2 : Int) (K2 : jx_I), n12 = ((Ln l : Int) - l2).toNat → (∃ p : Nat, l1 = (i : Int) ∧ l2 = p ∧ i < L.length ∧ p ≤ Ln l ∧ MH K2 (a0 + 1347) (Ln l) (Lm l) (mq (fun q c => if 0 < g q c ∧ g q c < d q c then g q c + 1 else g q c) L i p g) ∧ FR (a0 + 1347) (a0 + 1355) I K2) → J12 l1 l2 K2 := by
        intro n12
        induction n12 using Nat.strongRecOn with
        | ind n12 ih12 =>
        intro l1 l2 K2 hn12 hI12
        obtain ⟨p, rfl, rfl, hi, hp, hK, hF⟩ := hI12
        have hNK : ML K2 a0 46 (a0 + 1364) L := ML_of hN.1 (by rw [hF a0 (by omega)]) (hF _ (by omega))
        have h4 : (K2 (a0 + 4) 0).toInt = Ln l := by rw [hF (a0 + 4) (by omega)]; exact hD.1.1
        obtain ⟨y, hy, hy2⟩ := ML_get hNK (i := i) (by omega)
        have hym : y ∈ L := List.mem_of_getElem? hy
        have hy8 := hLm y hym
        refine hJ12 _ _ _ ?_
        unfold wz_254_12
        refine ⟨s_M_0 hM, _, r_M_11 hM, _, ⟨s_M_4 hM, by decide⟩, ?_⟩
        try simp only [Int.toNat_zero, h4]
        refine ⟨by omega, by omega, ?_⟩
        refine ⟨fun hq2 => ?_, fun hq2 => ?_⟩
        · exact ih2 _ (by omega) _ _ rfl (⟨i + 1, by omega, by omega, MH_eq hK (fun q c hq hc => by rw [show p = Ln l by omega]; exact mq_next hy hq), hF⟩)
        · have hat := mq_at (f := (fun q c => if 0 < g q c ∧ g q c < d q c then g q c + 1 else g q c)) (g := g) (p := p) hnd hy
          have hcell := hK p y (by omega) hy8
          rw [hat] at hcell
          have hb := hG p y (by omega) hy8
          have hdc : (K2 (a0 + 1356 + y) p).toInt = d p y := by rw [hF (a0 + 1356 + y) (by omega)]; exact hN.2.2 p y (by omega) hy8
          refine ⟨_, r_M_42 hM, _, r_M_44 hM, _, ⟨s_M_1364 hM, by decide⟩, ?_⟩
          try simp only [Int.toNat_natCast, hy2]
          refine ⟨by omega, _, ⟨s_M_1346 hM, by decide⟩, by omega, _, rr_M_1346 hM (by omega), _, ⟨sr_M_1346 hM (by omega), by decide⟩, ?_⟩
          try simp only [Int.toNat_natCast]
          refine ⟨by omega, by omega, by omega, _, rr_M_1346 hM (by omega), _, ⟨sr_M_1346 hM (by omega), by decide⟩, ?_⟩
          try simp only [Int.toNat_natCast, hcell]
          refine ⟨by omega, _, r_M_43 hM, by omega, _, ⟨s_M_1355 hM, by decide⟩, by omega, _, rr_M_1355 hM (by omega), _, ⟨sr_M_1355 hM (by omega), by decide⟩, ?_⟩
          try simp only [Int.toNat_natCast, hdc]
          refine ⟨by omega, ?_⟩
          refine ⟨_, cz_203 hV (by omega) (by omega) (by omega), ?_⟩
          rintro _ I45 ⟨rfl, e9⟩; replace e9 := e9.symm; subst e9
          refine ⟨_, rfl, ?_⟩
          refine ⟨by split <;> omega, ?_⟩
          refine ⟨fun hq3 => ?_, fun hq3 => ?_⟩
          · refine hJ76 _ _ _ _ _ _ _ ?_
            unfold wz_254_76
            refine ⟨_, ⟨sr_M_1346 hM (by omega), by decide⟩, by omega, ?_⟩
            intro I51 e_I51; subst e_I51
            exact ih12 _ (by omega) _ _ _ rfl (⟨p + 1, rfl, by omega, hi, by omega, by
              have hcc : ¬ (0 < g p y ∧ g p y < d p y) := fun h => by rw [if_pos (by omega)] at hq3; omega
              rw [mq_step hy, if_neg hcc]
              have := MH_u (p := p) (c := y) (v := g p y + 0) hK (by omega)
              simpa using this, FR_u hF (by omega) (by omega)⟩)
          · refine hJ76 _ _ _ _ _ _ _ ?_
            unfold wz_254_76
            refine ⟨_, ⟨sr_M_1346 hM (by omega), by decide⟩, by omega, ?_⟩
            intro I51 e_I51; subst e_I51
            exact ih12 _ (by omega) _ _ _ rfl (⟨p + 1, rfl, by omega, hi, by omega, by
              have hcc : 0 < g p y ∧ g p y < d p y := by
                by_cases h : 1 ≤ g p y ∧ g p y ≤ d p y - 1
                · omega
                · rw [if_neg h] at hq3; omega
              rw [mq_step hy, if_pos hcc]
              exact MH_u (p := p) (c := y) hK (by omega), FR_u hF (by omega) (by omega)⟩)
      exact L12 _ _ _ _ rfl (⟨0, rfl, rfl, by omega, by omega, hK, hF⟩)
  exact L2 _ _ _ rfl (⟨0, rfl, by omega, by rw [mq_0]; exact hN.2.1, FR_refl⟩)
theorem GDn_t {n m : Nat} {mo : Nat → Int} {Lc L : List Nat} {p : Nat} {g d : GT} (h : GDn n m g d) (hp : p < n) (hL : ∀ c ∈ L, c < m) : GDn n m (tg mo Lc L p g) (td mo Lc L p g d) := by
  intro q c hq hc
  unfold tg td
  have h1 := h q c hq hc
  split
  · rename_i h2
    have h3 := h p (mo c).toNat hp (hL _ h2.2.2.2.1)
    omega
  · exact h1
theorem GDn_c {n m : Nat} {k : Int} {mo : Nat → Int} {L : List Nat} {p : Nat} {g d : GT} (h : GDn n m g d) (hp : p < n) (hL : ∀ c ∈ L, c < m) : GDn n m (cmg k mo L p g d) (cmd mo L p g d) := by
  have h1 : GDn n m (tg mo L L p g) (td mo L L p g d) := GDn_t h hp hL
  unfold cmg cmd
  generalize tg mo L L p g = g1 at h1
  generalize td mo L L p g d = d1 at h1
  intro q c hq hc
  have h2 := h1 q c hq hc
  split
  · unfold fod; split <;> omega
  · split
    · unfold slt; split <;> omega
    · exact h2
theorem MN_c {I I' : jx_I} {m : Nat} {l : LT} {L : List Nat} {g d : GT} (h : MN I m l L g d) (hW : WT l) (e : I' m 46 = I m 46) (e1 : ∀ q, m + 1346 ≤ q → q < m + 1365 → I' q = I q) : MN I' m l L g d := by
  have hn := hW.1
  exact ⟨ML_of h.1 e (e1 _ (by omega) (by omega)), MH_of h.2.1 (fun c hc => e1 _ (by omega) (by omega)), MH_of h.2.2 (fun c hc => e1 _ (by omega) (by omega))⟩
/-- GrievingCamelsModel.comes -/
theorem cz_255 {V : jx_V} (hV : V.1.stackTraces = false) {X : jx_X} {R : jx_R} {I : jx_I} {a0 : Nat} {a1 : Int} {l : LT} {L : List Nat} {g d : GT} {p : Nat}
    (hM : MX X R a0) (hD : MD I a0 l) (hW : WT l) (hN : MN I a0 l L g d) (hG : GDn (Ln l) (Lm l) g d) (hLm : ∀ c ∈ L, c < Lm l) (hL8 : L.length ≤ 8) (hnd : L.Nodup) (h1 : a1 = (p : Int)) (hp : p < Ln l)
    {QE : String → jx_I → Prop} : jc V 4 255 (0, 0) [.ref a0, jy a1] X I R (fun rv I' => rv = some (jy (hlt (Lc l) (L.map (g p)) (nd (Lk l p)))) ∧ MN I' a0 l L (cmg (Lk l p) (Lo l) L p g d) (cmd (Lo l) L p g d) ∧ FC a0 I I') QE := by
  have hW0 := hW.1
  refine wm_255 hV (by omega)  (fun J8 J40 J170 J171 J191 hJJ => ?_)
  obtain ⟨hJ8, hJ40, hJ170, hJ171, hJ191⟩ := hJJ
  have hn := hW.1
  have hpp : a1.toNat = p := by omega
  have hpn : Ln l ≤ 10 := hn.1
  unfold wz_255
  refine ⟨s_M_0 hM, ?_⟩
  refine ⟨_, cz_246 hV hM hD hW hN hG hLm hL8 h1 hp, ?_⟩
  rintro _ I4 ⟨rfl, hF0⟩
  refine ⟨_, rfl, ?_⟩
  have L8 : ∀ (n8 : Nat) (l2 : Int) (l3 : Int) (K : jx_I), n8 = ((Lm l : Int) - l3).toNat → (∃ i : Nat, l3 = i ∧ i ≤ Lm l ∧ l2 = hlt (Lc l) (L.map (g p)) (nd (Lk l p)) ∧ MN K a0 l L g d ∧ (∀ c, c < i → (K (a0 + 1365) c).toInt = g p c) ∧ FC a0 I K) → J8 l2 l3 K := by
    intro n8
    induction n8 using Nat.strongRecOn with
    | ind n8 ih8 =>
    intro l2 l3 K hn8 hI8
    obtain ⟨i, rfl, hi, rfl, hNK, hcm, hF⟩ := hI8
    have hDK := MD_c hD hF hW
    have h4 := hDK.1.2
    refine hJ8 _ _ _ ?_
    unfold wz_255_8
    refine ⟨s_M_0 hM, _, r_M_11 hM, _, ⟨s_M_4 hM, by decide⟩, ?_⟩
    try simp only [show (1 : Int).toNat = 1 from rfl, h4]
    refine ⟨by omega, by omega, ?_⟩
    refine ⟨fun hq1 => ?_, fun hq1 => ?_⟩
    · have L40 : ∀ (n40 : Nat) (l2 : Int) (l3 : Int) (K2 : jx_I), n40 = ((L.length : Int) - l3).toNat → (∃ i : Nat, l3 = i ∧ i ≤ L.length ∧ l2 = hlt (Lc l) (L.map (g p)) (nd (Lk l p)) ∧ MN K2 a0 l L (tg (Lo l) (L.take i) L p g) (td (Lo l) (L.take i) L p g d) ∧ (∀ c, c < Lm l → (K2 (a0 + 1365) c).toInt = g p c) ∧ FC a0 I K2) → J40 l2 l3 K2 := by
        intro n40
        induction n40 using Nat.strongRecOn with
        | ind n40 ih40 =>
        intro l2 l3 K2 hn40 hI40
        obtain ⟨i, rfl, hi, rfl, hNK, hcm, hF⟩ := hI40
        have hDK := MD_c hD hF hW
        have hm := hNK.1.1
        have hkp := hDK.2.1 p hp
        refine hJ40 _ _ _ ?_
        unfold wz_255_40
        refine ⟨s_M_0 hM, by omega, ?_⟩
        refine ⟨fun hq2 => ?_, fun hq2 => ?_⟩
        · rw [List.take_of_length_le (by omega)] at hNK
          have hNT := hNK
          have hGT := GDn_t (mo := Lo l) (Lc := L) hG hp hLm
          refine ⟨_, r_M_13 hM, _, ⟨s_M_6 hM, by decide⟩, ?_⟩
          try simp only [hpp, hkp]
          refine ⟨by omega, ?_⟩
          refine ⟨fun hq3 => ?_, fun hq3 => ?_⟩
          · refine ⟨by omega, ?_⟩
            refine ⟨fun hq4 => ?_, fun hq4 => ?_⟩
            · refine ⟨by trivial, ?_, hF⟩
              unfold cmg cmd
              rw [if_neg hq3, if_neg hq4]
              exact hNK
            · refine ⟨_, cz_254 hV hM hDK hW hNT hGT hLm hL8 hnd, ?_⟩
              rintro _ I39 ⟨rfl, hT2, hF2⟩
              refine ⟨rfl, ?_⟩
              refine ⟨by trivial, ?_, FC_fr hF hF2 (by omega)⟩
              unfold cmg cmd
              rw [if_neg hq3, if_pos (by omega)]
              exact ⟨ML_of hNK.1 (by rw [hF2 a0 (by omega)]) (hF2 _ (by omega)), hT2, MH_of hNK.2.2 (fun c hc => hF2 _ (by omega))⟩
          · refine ⟨_, cz_253 hV hM hDK hW hNT hGT hLm hL8 hnd, ?_⟩
            rintro _ I43 ⟨rfl, hT2, hF2⟩
            refine ⟨rfl, ?_⟩
            refine hJ191 _ _ ?_
            unfold wz_255_191
            refine ⟨s_M_0 hM, _, r_M_13 hM, _, ⟨s_M_6 hM, by decide⟩, by omega, ?_⟩
            refine ⟨fun hq5 => ?_, fun hq5 => ?_⟩
            · refine ⟨by trivial, ?_, FC_fr hF hF2 (by omega)⟩
              unfold cmg cmd
              rw [if_pos (by omega)]
              exact ⟨ML_of hNK.1 (by rw [hF2 a0 (by omega)]) (hF2 _ (by omega)), hT2, MH_of hNK.2.2 (fun c hc => hF2 _ (by omega))⟩
            · rw [hpp, hF2 (a0 + 6) (by omega), hkp] at hq5; omega
        · obtain ⟨y, hy, hy2⟩ := ML_get hNK.1 (i := i) (by omega)
          have hym : y ∈ L := List.mem_of_getElem? hy
          have hy8 := hLm y hym
          have hls := ls_last hy
          obtain ⟨-, hmo, -⟩ := hDK.2.2.2.1 y hy8
          have hmv := (hW.2.2.2.1 y hy8).2.1
          refine ⟨_, r_M_44 hM, _, ⟨s_M_1364 hM, by decide⟩, ?_⟩
          try simp only [Int.toNat_natCast, hy2]
          refine ⟨by omega, _, r_M_17 hM, _, ⟨s_M_10 hM, by decide⟩, ?_⟩
          try simp only [Int.toNat_natCast, hmo]
          refine ⟨by omega, ?_⟩
          refine ⟨fun hq6 => ?_, fun hq6 => ?_⟩
          · exact ih40 _ (by omega) _ _ _ rfl (⟨i + 1, by omega, by omega, rfl, by rw [hls, tg_skip (by omega), td_skip (by omega)]; exact hNK, hcm, hF⟩)
          · have hm4 : Lo l y = ((Lo l y).toNat : Int) := by omega
            have hm8 : (Lo l y).toNat < Lm l := by omega
            have hMm := hcm _ hm8
            have hMy := hcm _ hy8
            have hb := hG p (Lo l y).toNat hp hm8
            have hb2 := hG p y hp hy8
            have hdv := jz_div2 (x := g p (Lo l y).toNat) (by omega)
            refine ⟨_, cz_252 hV hM hNK.1 hL8 hm4 (by omega), ?_⟩
            rintro _ I57 ⟨rfl, e9⟩; replace e9 := e9.symm; subst e9
            refine ⟨_, rfl, ?_⟩
            refine ⟨by omega, ?_⟩
            refine ⟨fun hq7 => ?_, fun hq7 => ?_⟩
            · have hnm : (Lo l y).toNat ∉ L := fun h => by rw [if_pos h] at hq7; omega
              exact ih40 _ (by omega) _ _ _ rfl (⟨i + 1, by omega, by omega, rfl, by rw [hls, tg_skip (fun h => hnm h.2.1), td_skip (fun h => hnm h.2.1)]; exact hNK, hcm, hF⟩)
            · have hmm : (Lo l y).toNat ∈ L := by
                by_cases h : (Lo l y).toNat ∈ L
                · exact h
                · rw [if_neg h] at hq7; omega
              refine ⟨_, r_M_45 hM, _, ⟨s_M_1365 hM, by decide⟩, ?_⟩
              try simp only [Int.toNat_natCast, hMm, hMy, hdv]
              refine ⟨by omega, by omega, ?_⟩
              refine ⟨fun hq8 => ?_, fun hq8 => ?_⟩
              · have hcond : 0 ≤ Lo l y ∧ (Lo l y).toNat ∈ L ∧ g p y < g p (Lo l y).toNat / 2 := ⟨by omega, hmm, by omega⟩
                have hbt := GDn_t (mo := Lo l) (Lc := L.take i) hG hp hLm p y hp hy8
                have htd := hNK.2.2 p y hp hy8
                refine ⟨_, r_M_42 hM, _, ⟨s_M_1346 hM, by decide⟩, by omega, _, rr_M_1346 hM (by omega), by omega, _, ⟨sr_M_1346 hM (by omega), by decide⟩, ?_⟩
                try simp only [Int.toNat_natCast, hpp]
                refine ⟨by omega, ?_⟩
                intro I77 e_I77; subst e_I77
                refine ⟨_, r_M_43 hM, _, ⟨s_M_1355 hM, by decide⟩, by omega, _, rr_M_1355 hM (by omega), by omega, _, rr_M_1346 hM (by omega), _, ⟨sr_M_1346 hM (by omega), by decide⟩, ?_⟩
                try simp only [Int.toNat_natCast]
                refine ⟨by omega, by omega, _, rr_M_1355 hM (by omega), _, ⟨sr_M_1355 hM (by omega), by decide⟩, ?_⟩
                have e8 : (jx_u K2 (a0 + 1347 + y) p (Int32.ofInt (g p (Lo l y).toNat / 2)) (a0 + 1347 + y) p).toInt = g p (Lo l y).toNat / 2 := by rw [jx_u_s]; exact jy_toInt (by omega)
                have e9 : (jx_u K2 (a0 + 1347 + y) p (Int32.ofInt (g p (Lo l y).toNat / 2)) (a0 + 1356 + y) p).toInt = td (Lo l) (L.take i) L p g d p y := by rw [jx_u_a _ _ _ _ (by omega), htd]
                try simp only [Int.toNat_natCast, hpp, e8, e9]
                refine ⟨by omega, ?_⟩
                refine ⟨fun hq9 => ?_, fun hq9 => ?_⟩
                · refine ⟨by omega, _, rr_M_1355 hM (by omega), _, ⟨sr_M_1355 hM (by omega), by decide⟩, ?_⟩
                  try simp only [Int.toNat_natCast, hpp, e9]
                  refine ⟨by omega, ?_⟩
                  refine hJ170 _ _ _ _ _ _ ?_
                  unfold wz_255_170
                  refine ⟨_, ⟨sr_M_1355 hM (by omega), by decide⟩, by omega, ?_⟩
                  intro I112 e_I112; subst e_I112
                  refine hJ171 _ _ _ ?_
                  unfold wz_255_171
                  exact ih40 _ (by omega) _ _ _ rfl (⟨i + 1, by omega, by omega, rfl, by
                    rw [hls, tg_add hcond, td_add (nd_at hnd hy) hcond]
                    refine ⟨ML_of hNK.1 (by rw [jx_u_r _ _ _ (by omega), jx_u_r _ _ _ (by omega)]) (by rw [jx_u_r _ _ _ (by omega), jx_u_r _ _ _ (by omega)]), MH_of (MH_u (p := p) (c := y) hNK.2.1 (by omega)) (fun c hc => jx_u_r _ _ _ (by omega)), ?_⟩
                    have h5 : MH (jx_u K2 (a0 + 1347 + y) p (Int32.ofInt (g p (Lo l y).toNat / 2))) (a0 + 1356) (Ln l) (Lm l) (td (Lo l) (L.take i) L p g d) := MH_of hNK.2.2 (fun c hc => jx_u_r _ _ _ (by omega))
                    have h6 := MH_u (p := p) (c := y) (v := max (td (Lo l) (L.take i) L p g d p y) (g p (Lo l y).toNat / 2)) h5 (by omega)
                    rw [show max (td (Lo l) (L.take i) L p g d p y) (g p (Lo l y).toNat / 2) = td (Lo l) (L.take i) L p g d p y by omega] at h6
                    rw [show max (td (Lo l) (L.take i) L p g d p y) (g p (Lo l y).toNat / 2) = td (Lo l) (L.take i) L p g d p y by omega]
                    rw [hpp]
                    exact h6, fun c hc => by rw [jx_u_a _ _ _ _ (by omega), jx_u_a _ _ _ _ (by omega)]; exact hcm c hc, FC_u (FC_u hF (by omega)) (by omega)⟩)
                · refine ⟨by omega, _, rr_M_1346 hM (by omega), _, ⟨sr_M_1346 hM (by omega), by decide⟩, ?_⟩
                  try simp only [Int.toNat_natCast, hpp, e8]
                  refine ⟨by omega, ?_⟩
                  refine hJ170 _ _ _ _ _ _ ?_
                  unfold wz_255_170
                  refine ⟨_, ⟨sr_M_1355 hM (by omega), by decide⟩, by omega, ?_⟩
                  intro I112 e_I112; subst e_I112
                  refine hJ171 _ _ _ ?_
                  unfold wz_255_171
                  exact ih40 _ (by omega) _ _ _ rfl (⟨i + 1, by omega, by omega, rfl, by
                    rw [hls, tg_add hcond, td_add (nd_at hnd hy) hcond]
                    refine ⟨ML_of hNK.1 (by rw [jx_u_r _ _ _ (by omega), jx_u_r _ _ _ (by omega)]) (by rw [jx_u_r _ _ _ (by omega), jx_u_r _ _ _ (by omega)]), MH_of (MH_u (p := p) (c := y) hNK.2.1 (by omega)) (fun c hc => jx_u_r _ _ _ (by omega)), ?_⟩
                    have h5 : MH (jx_u K2 (a0 + 1347 + y) p (Int32.ofInt (g p (Lo l y).toNat / 2))) (a0 + 1356) (Ln l) (Lm l) (td (Lo l) (L.take i) L p g d) := MH_of hNK.2.2 (fun c hc => jx_u_r _ _ _ (by omega))
                    have h6 := MH_u (p := p) (c := y) (v := max (td (Lo l) (L.take i) L p g d p y) (g p (Lo l y).toNat / 2)) h5 (by omega)
                    rw [show max (td (Lo l) (L.take i) L p g d p y) (g p (Lo l y).toNat / 2) = g p (Lo l y).toNat / 2 by omega] at h6
                    rw [show max (td (Lo l) (L.take i) L p g d p y) (g p (Lo l y).toNat / 2) = g p (Lo l y).toNat / 2 by omega]
                    rw [hpp]
                    exact h6, fun c hc => by rw [jx_u_a _ _ _ _ (by omega), jx_u_a _ _ _ _ (by omega)]; exact hcm c hc, FC_u (FC_u hF (by omega)) (by omega)⟩)
              · refine hJ171 _ _ _ ?_
                unfold wz_255_171
                exact ih40 _ (by omega) _ _ _ rfl (⟨i + 1, by omega, by omega, rfl, by rw [hls, tg_skip (by omega), td_skip (by omega)]; exact hNK, hcm, hF⟩)
      exact L40 _ _ _ _ rfl (⟨0, rfl, by omega, rfl, ⟨hNK.1, MH_eq hNK.2.1 (fun q c _ _ => by unfold tg; rw [if_neg (by simp)]), MH_eq hNK.2.2 (fun q c _ _ => by unfold td; rw [if_neg (by simp)])⟩, fun c hc => hcm c (by omega), hF⟩)
    · have hcv := hNK.2.1 p i hp (by omega)
      refine ⟨_, r_M_45 hM, _, r_M_42 hM, _, ⟨s_M_1346 hM, by decide⟩, by omega, _, rr_M_1346 hM (by omega), _, ⟨sr_M_1346 hM (by omega), by decide⟩, ?_⟩
      try simp only [Int.toNat_natCast, hpp, hcv]
      refine ⟨by omega, _, ⟨s_M_1365 hM, by decide⟩, by omega, ?_⟩
      intro I28 e_I28; subst e_I28
      exact ih8 _ (by omega) _ _ _ rfl (⟨i + 1, by omega, by omega, rfl, MN_c hNK hW (by rw [jx_u_r _ _ _ (by omega)]) (fun q h1 h2 => jx_u_r _ _ _ (by omega)), fun c hc => by
        rcases Nat.lt_or_ge c i with h | h
        · rw [jx_u_k _ _ _ _ (by omega)]; exact hcm c h
        · rw [show c = i by omega, jx_u_s]
          have := hG p i hp (by omega)
          exact jy_toInt (by omega), FC_u hF (by omega)⟩)
  exact L8 _ _ _ _ rfl (⟨0, rfl, by omega, rfl, MN_c hN hW (by rw [hF0 a0 (by omega)]) (fun q h1 h2 => hF0 q (by omega)), fun c hc => by omega, FC_fr FC_refl hF0 (by omega)⟩)
