/-! ===== the reference: roped ===== -/
/-- of the reference only what is tried changes, and the fields ks -/
def FKc (m : Nat) (ks : List Nat) (I I' : jx_I) : Prop := (∀ q, q ≠ m → q ≠ m + 1286 → (q < m + 1346 ∨ m + 1366 ≤ q) → I' q = I q) ∧ ∀ k, k ∉ ks → I' m k = I m k
theorem FKc_refl {m : Nat} {ks : List Nat} {I : jx_I} : FKc m ks I I := ⟨fun _ _ _ _ => rfl, fun _ _ => rfl⟩
theorem FKc_trans {m : Nat} {ks : List Nat} {I I' I2 : jx_I} (h : FKc m ks I I') (h2 : FKc m ks I' I2) : FKc m ks I I2 := ⟨fun q a b c => (h2.1 q a b c).trans (h.1 q a b c), fun k hk => (h2.2 k hk).trans (h.2 k hk)⟩
theorem FKc_mono {m : Nat} {ks ks2 : List Nat} {I I' : jx_I} (h : FKc m ks I I') (hs : ∀ k ∈ ks, k ∈ ks2) : FKc m ks2 I I' := ⟨h.1, fun k hk => h.2 k (fun h2 => hk (hs k h2))⟩
theorem FKc_c {m : Nat} {ks : List Nat} {I I' : jx_I} (h : FC m I I') : FKc m ks I I' := ⟨fun q a b c => h q b (by omega), fun k _ => by rw [h m (by omega) (by omega)]⟩
theorem FKc_fr {m lo hi : Nat} {ks : List Nat} {I I' : jx_I} (h : FR lo hi I I') (h1 : (m + 1286 ≤ lo ∧ hi ≤ m + 1287) ∨ (m + 1346 ≤ lo ∧ hi ≤ m + 1366)) : FKc m ks I I' := ⟨fun q a b c => h q (by omega), fun k _ => by rw [h m (by omega)]⟩
theorem FKc_f {m k : Nat} {ks : List Nat} {I I' : jx_I} {v : Int32} (h : FKc m ks I I') (hk : k ∈ ks) : FKc m ks I (jx_u I' m k v) := ⟨fun q a b c => by rw [jx_u_r _ _ _ a]; exact h.1 q a b c, fun j hj => by rw [jx_u_k _ _ _ _ (by intro e; exact hj (e ▸ hk))]; exact h.2 j hj⟩
theorem FKc_u {m a k : Nat} {ks : List Nat} {I I' : jx_I} {v : Int32} (h : FKc m ks I I') (ha : a = m + 1286 ∨ (m + 1346 ≤ a ∧ a < m + 1366)) : FKc m ks I (jx_u I' a k v) := ⟨fun q b c e => by rw [jx_u_r _ _ _ (by omega)]; exact h.1 q b c e, fun j hj => by rw [jx_u_a _ _ _ _ (by omega)]; exact h.2 j hj⟩
theorem FKc_MD {m : Nat} {ks : List Nat} {I I' : jx_I} {l : LT} (h : MD I m l) (hf : FKc m ks I I') (hk : 23 ∉ ks) (hW : WT l) : MD I' m l := MD_of h (hf.2 23 hk) (fun q h1 h2 => hf.1 q (by omega) (by omega) (by omega)) hW
theorem FKc_ML {m k a : Nat} {ks : List Nat} {I I' : jx_I} {L : List Nat} (h : ML I m k a L) (hf : FKc m ks I I') (hk : k ∉ ks) (h1 : a ≠ m) (h2 : a ≠ m + 1286) (h3 : a < m + 1346 ∨ m + 1366 ≤ a) : ML I' m k a L := ML_of h (hf.2 k hk) (hf.1 a h1 h2 h3)
theorem FKc_MH {m x n c : Nat} {ks : List Nat} {I I' : jx_I} {g : GT} (h : MH I x n c g) (hf : FKc m ks I I') (h1 : ∀ j, j < c → x + j ≠ m ∧ x + j ≠ m + 1286 ∧ (x + j < m + 1346 ∨ m + 1366 ≤ x + j)) : MH I' x n c g := MH_of h (fun j hj => hf.1 _ (h1 j hj).1 (h1 j hj).2.1 (h1 j hj).2.2)
theorem FKc_MB {m : Nat} {ks : List Nat} {I I' : jx_I} {l : LT} {L : List Nat} {g d : GT} (h : MB I m l L g d) (hf : FKc m ks I I') (hk : 36 ∉ ks) (hW : WT l) : MB I' m l L g d := by
  have hn := hW.1
  exact ⟨FKc_ML h.1 hf hk (by omega) (by omega) (by omega), FKc_MH h.2.1 hf (fun j hj => by omega), FKc_MH h.2.2 hf (fun j hj => by omega)⟩
/-- GrievingCamelsModel.begins -/
theorem cz_243c {V : jx_V} (hV : V.1.stackTraces = false) {X : jx_X} {R : jx_R} {I : jx_I} {a0 : Nat} {l : LT} {L : List Nat} {g d : GT}
    (hM : MX X R a0) (hD : MD I a0 l) (hW : WT l) (hB : MB I a0 l L g d) (hG : GDn (Ln l) (Lm l) g d) (hLm : ∀ c ∈ L, c < Lm l) (hL8 : L.length ≤ 8)
    {QE : String → jx_I → Prop} : jc V 1 243 (0, 0) [.ref a0] X I R (fun rv I' => rv = none ∧ MN I' a0 l L g d ∧ FKc a0 [46] I I') QE := by
  have hW0 := hW.1
  refine wm_243 hV   (fun J2 J14 J78 hJJ => ?_)
  obtain ⟨hJ2, hJ14, hJ78⟩ := hJJ
  have hn := hW.1
  have hm := hB.1.1
  unfold wz_243
  have L2 : ∀ (n2 : Nat) (l1 : Int) (K : jx_I), n2 = ((Lm l : Int) - l1).toNat → (∃ i : Nat, l1 = i ∧ i ≤ Lm l ∧ MH K (a0 + 1347) (Ln l) i g ∧ MH K (a0 + 1356) (Ln l) i d ∧ FR (a0 + 1347) (a0 + 1364) I K) → J2 l1 K := by
    intro n2
    induction n2 using Nat.strongRecOn with
    | ind n2 ih2 =>
    intro l1 K hn2 hI2
    obtain ⟨i, rfl, hi, hg, hd, hF⟩ := hI2
    have h4 : (K (a0 + 4) 1).toInt = Lm l := by rw [hF (a0 + 4) (by omega)]; exact hD.1.2
    refine hJ2 _ _ ?_
    unfold wz_243_2
    refine ⟨s_M_0 hM, _, r_M_11 hM, _, ⟨s_M_4 hM, by decide⟩, ?_⟩
    try simp only [-eq_self, show (1 : Int).toNat = 1 from rfl, h4]
    refine ⟨by omega, by omega, ?_⟩
    refine ⟨fun hq1 => ?_, fun hq1 => ?_⟩
    · intro I8 e_I8; subst e_I8
      have L78 : ∀ (n78 : Nat) (l1 : Int) (K3 : jx_I), n78 = ((L.length : Int) - l1).toNat → (∃ i : Nat, l1 = i ∧ i ≤ L.length ∧ (∀ k, k < i → K3 (a0 + 1364) k = I (a0 + 1344) k) ∧ (K3 a0 46).toInt = L.length ∧ MH K3 (a0 + 1347) (Ln l) (Lm l) g ∧ MH K3 (a0 + 1356) (Ln l) (Lm l) d ∧ FKc a0 [46] I K3) → J78 l1 K3 := by
        intro n78
        induction n78 using Nat.strongRecOn with
        | ind n78 ih78 =>
        intro l1 K3 hn78 hI78
        obtain ⟨i, rfl, hi, hr, hm46, hg, hd, hF⟩ := hI78
        have hm2 : (K3 a0 36).toInt = L.length := by rw [hF.2 36 (by decide)]; exact hm
        refine hJ78 _ _ ?_
        unfold wz_243_78
        refine ⟨s_M_0 hM, by omega, ?_⟩
        refine ⟨fun hq2 => ?_, fun hq2 => ?_⟩
        · exact ⟨rfl, ⟨⟨hm46, fun k x hk => by
            have h9 := (List.getElem?_eq_some_iff.mp hk).1
            rw [hr k (by omega)]; exact hB.1.2 k x hk⟩, hg, hd⟩, hF⟩
        · refine ⟨_, r_M_44 hM, _, r_M_34 hM, _, ⟨s_M_1344 hM, by decide⟩, by omega, _, ⟨s_M_1364 hM, by decide⟩, by omega, ?_⟩
          intro I70 e_I70; subst e_I70
          exact ih78 _ (by omega) _ _ rfl (⟨i + 1, by omega, by omega, fun k hk => by
            rcases Nat.lt_or_ge k i with h | h
            · rw [jx_u_k _ _ _ _ (by omega)]; exact hr k h
            · rw [show k = i by omega, Int.toNat_natCast, jx_u_s, Int32.ofInt_toInt, hF.1 (a0 + 1344) (by omega) (by omega) (by omega)], by rw [jx_u_a _ _ _ _ (by omega)]; exact hm46, MH_of hg (fun c hc => jx_u_r _ _ _ (by omega)), MH_of hd (fun c hc => jx_u_r _ _ _ (by omega)), FKc_u hF (by omega)⟩)
      exact L78 _ _ _ rfl (⟨0, rfl, by omega, fun k hk => by omega, by rw [jx_u_s, hF a0 (by omega), Int32.ofInt_toInt]; exact hm, MH_of (by rw [show Lm l = i by omega]; exact hg) (fun c hc => jx_u_r _ _ _ (by omega)), MH_of (by rw [show Lm l = i by omega]; exact hd) (fun c hc => jx_u_r _ _ _ (by omega)), FKc_f (FKc_fr hF (by omega)) (by decide)⟩)
    · have hii : i < Lm l := by omega
      have L14 : ∀ (n14 : Nat) (l1 : Int) (l2 : Int) (K2 : jx_I), n14 = ((Ln l : Int) - l2).toNat → (∃ p : Nat, l1 = (i : Int) ∧ l2 = p ∧ i < Lm l ∧ p ≤ Ln l ∧ MH K2 (a0 + 1347) (Ln l) i g ∧ MH K2 (a0 + 1356) (Ln l) i d ∧ MH K2 (a0 + 1347 + i) p 1 (fun q _ => g q i) ∧ MH K2 (a0 + 1356 + i) p 1 (fun q _ => d q i) ∧ FR (a0 + 1347) (a0 + 1364) I K2) → J14 l1 l2 K2 := by
        intro n14
        induction n14 using Nat.strongRecOn with
        | ind n14 ih14 =>
        intro l1 l2 K2 hn14 hI14
        obtain ⟨p, rfl, rfl, hi, hp, hg, hd, hg1, hd1, hF⟩ := hI14
        have h4 : (K2 (a0 + 4) 0).toInt = Ln l := by rw [hF (a0 + 4) (by omega)]; exact hD.1.1
        refine hJ14 _ _ _ ?_
        unfold wz_243_14
        refine ⟨s_M_0 hM, _, r_M_11 hM, _, ⟨s_M_4 hM, by decide⟩, ?_⟩
        try simp only [-eq_self, Int.toNat_zero, h4]
        refine ⟨by omega, by omega, ?_⟩
        refine ⟨fun hq3 => ?_, fun hq3 => ?_⟩
        · exact ih2 _ (by omega) _ _ rfl (⟨i + 1, by omega, by omega, fun q c hq hc => by
            rcases Nat.lt_or_ge c i with h | h
            · exact hg q c hq h
            · have := hg1 q 0 (by omega) (by omega); rw [show c = i by omega]; simpa using this, fun q c hq hc => by
            rcases Nat.lt_or_ge c i with h | h
            · exact hd q c hq h
            · have := hd1 q 0 (by omega) (by omega); rw [show c = i by omega]; simpa using this, hF⟩)
        · have hgv : (K2 (a0 + 1288 + i) p).toInt = g p i := by rw [hF (a0 + 1288 + i) (by omega)]; exact hB.2.1 p i (by omega) hi
          have hdv : (K2 (a0 + 1297 + i) p).toInt = d p i := by rw [hF (a0 + 1297 + i) (by omega)]; exact hB.2.2 p i (by omega) hi
          have hgr := hG p i (by omega) hi
          refine ⟨_, r_M_42 hM, _, ⟨s_M_1346 hM, by decide⟩, by omega, _, rr_M_1346 hM (by omega), _, r_M_29 hM, _, ⟨s_M_1287 hM, by decide⟩, by omega, _, rr_M_1287 hM (by omega), _, ⟨sr_M_1287 hM (by omega), by decide⟩, ?_⟩
          try simp only [-eq_self, Int.toNat_natCast, hgv]
          refine ⟨by omega, _, ⟨sr_M_1346 hM (by omega), by decide⟩, ?_⟩
          try simp only [-eq_self, Int.toNat_natCast]
          refine ⟨by omega, ?_⟩
          intro I36 e_I36; subst e_I36
          refine ⟨_, r_M_43 hM, _, ⟨s_M_1355 hM, by decide⟩, by omega, _, rr_M_1355 hM (by omega), _, r_M_30 hM, _, ⟨s_M_1296 hM, by decide⟩, by omega, _, rr_M_1296 hM (by omega), _, ⟨sr_M_1296 hM (by omega), by decide⟩, ?_⟩
          have e9 : (jx_u K2 (a0 + 1347 + i) p (Int32.ofInt (g p i)) (a0 + 1297 + i) p).toInt = d p i := by rw [jx_u_a _ _ _ _ (by omega), hdv]
          try simp only [-eq_self, Int.toNat_natCast, e9]
          refine ⟨by omega, _, ⟨sr_M_1355 hM (by omega), by decide⟩, ?_⟩
          try simp only [-eq_self, Int.toNat_natCast]
          refine ⟨by omega, ?_⟩
          intro I57 e_I57; subst e_I57
          exact ih14 _ (by omega) _ _ _ rfl (⟨p + 1, rfl, by omega, hi, by omega, MH_of hg (fun c hc => by rw [jx_u_r _ _ _ (by omega), jx_u_r _ _ _ (by omega)]), MH_of hd (fun c hc => by rw [jx_u_r _ _ _ (by omega), jx_u_r _ _ _ (by omega)]), fun q c hq hc => by
            have hc0 : c = 0 := by omega
            subst hc0
            rw [jx_u_a _ _ _ _ (by omega)]
            rcases Nat.lt_or_ge q p with h | h
            · rw [jx_u_k _ _ _ _ (by omega)]; exact hg1 q 0 h (by omega)
            · rw [show a0 + 1347 + i + 0 = a0 + 1347 + i from rfl, show q = p by omega, jx_u_s]; exact jy_toInt (by omega), fun q c hq hc => by
            have hc0 : c = 0 := by omega
            subst hc0
            rcases Nat.lt_or_ge q p with h | h
            · rw [jx_u_k _ _ _ _ (by omega), jx_u_a _ _ _ _ (by omega)]; exact hd1 q 0 h (by omega)
            · rw [show a0 + 1356 + i + 0 = a0 + 1356 + i from rfl, show q = p by omega, jx_u_s]; exact jy_toInt (by omega), FR_u (FR_u hF (by omega) (by omega)) (by omega) (by omega)⟩)
      exact L14 _ _ _ _ rfl (⟨0, rfl, rfl, by omega, by omega, hg, hd, fun q c hq hc => by omega, fun q c hq hc => by omega, hF⟩)
  exact L2 _ _ _ rfl (⟨0, rfl, by omega, fun p c _ hc => by omega, fun p c _ hc => by omega, FR_refl⟩)
/-- GrievingCamelsModel.goes -/
theorem cz_258c {V : jx_V} (hV : V.1.stackTraces = false) {X : jx_X} {R : jx_R} {I : jx_I} {a0 : Nat} {l : LT} {L : List Nat} {g d : GT} {J : List Nat}
    (hM : MX X R a0) (hD : MD I a0 l) (hW : WT l) (hN : MN I a0 l L g d) (hG : GDn (Ln l) (Lm l) g d) (hLm : ∀ c ∈ L, c < Lm l) (hL8 : L.length ≤ 8) (hnd : L.Nodup) (hJ : ML I a0 37 (a0 + 1345) J) (hJn : ∀ c ∈ J, c < Ln l) (hJ12 : J.length ≤ 12)
    {QE : String → jx_I → Prop} : jc V 5 258 (0, 0) [.ref a0] X I R (fun rv I' => rv = some (jy (rs (Lr l) J (J.length - 1) + jhs l J L g d (J.length - 1))) ∧ (I' a0 48).toInt = rs (Lr l) J (J.length - 1) ∧ (I' a0 49).toInt = jhs l J L g d (J.length - 1) ∧ MN I' a0 l L (jst l J L g d (J.length - 1)).1 (jst l J L g d (J.length - 1)).2 ∧ FKc a0 [48, 49] I I') QE := by
  have hW0 := hW.1
  refine wm_258 hV   (fun J12 hJJ => ?_)
  have hJ12 := hJJ
  have hn := hW.1
  unfold wz_258
  refine ⟨s_M_0 hM, ?_⟩
  intro I2 e_I2; subst e_I2
  intro I3 e_I3; subst e_I3
  have L12 : ∀ (n12 : Nat) (l1 : Int) (K : jx_I), n12 = ((J.length : Int) - l1).toNat → (∃ i : Nat, l1 = (i + 1 : Nat) ∧ (i < J.length ∨ i = 0) ∧ (K a0 48).toInt = rs (Lr l) J i ∧ (K a0 49).toInt = jhs l J L g d i ∧ MN K a0 l L (jst l J L g d i).1 (jst l J L g d i).2 ∧ FKc a0 [48, 49] I K) → J12 l1 K := by
    intro n12
    induction n12 using Nat.strongRecOn with
    | ind n12 ih12 =>
    intro l1 K hn12 hI12
    obtain ⟨i, rfl, hi, h48, h49, hNK, hF⟩ := hI12
    have hJK := FKc_ML hJ hF (by decide) (by omega) (by omega) (by omega)
    have hm := hJK.1
    have hDK := FKc_MD hD hF (by decide) hW
    have hGi := GDn_j (l := l) hG hJn hLm i hi
    have hrg := jhs_rng l J L g d i
    refine hJ12 _ _ ?_
    unfold wz_258_12
    refine ⟨s_M_0 hM, by omega, ?_⟩
    refine ⟨fun hq1 => ?_, fun hq1 => ?_⟩
    · rw [show J.length - 1 = i by omega]
      exact ⟨by rw [h48, h49], h48, h49, hNK, hF⟩
    · obtain ⟨e1, m1⟩ := ML_gd hJK (i := i) (by omega)
      obtain ⟨e2, m2⟩ := ML_gd hJK (i := i + 1) (by omega)
      have b1 := hJn _ m1
      have b2 := hJn _ m2
      have hrr := (hW.2.2.1 _ _ b1 b2).1
      have hrv := hDK.2.2.1 _ _ b1 b2
      have hrb := rs_rng (r := Lr l) (J := J) (b := 24) (fun k hk => by
        obtain ⟨e1, m1⟩ := ML_gd hJK (i := k) (by omega)
        obtain ⟨e2, m2⟩ := ML_gd hJK (i := k + 1) (by omega)
        exact (hW.2.2.1 _ _ (hJn _ m1) (hJn _ m2)).1) i (by omega)
      have hht := hlt_rng (Lc l) (L.map ((jst l J L g d i).1 (J.getD (i + 1) 0))) (nd (Lk l (J.getD (i + 1) 0)))
      refine ⟨_, r_M_21 hM, _, r_M_35 hM, _, ⟨s_M_1345 hM, by decide⟩, ?_⟩
      try simp only [-eq_self, show (((i + 1 : Nat) : Int) - 1).toNat = i by omega, show ((i + 1 : Nat) : Int).toNat = i + 1 by omega, e1, e2]
      refine ⟨by omega, _, ⟨s_M_24 hM, by decide⟩, by omega, _, rr_M_24 hM (by omega), by omega, _, ⟨sr_M_24 hM (by omega), by decide⟩, ?_⟩
      try simp only [-eq_self, Int.toNat_natCast, hrv, h48, h49]
      refine ⟨by omega, ?_⟩
      intro I22 e_I22; subst e_I22
      refine ⟨by omega, ?_⟩
      have e22 : (jx_u K a0 48 (Int32.ofInt (rs (Lr l) J i + Lr l (J.getD i 0) (J.getD (i + 1) 0))) (a0 + 1345) (i + 1)).toInt = ((J.getD (i + 1) 0 : Nat) : Int) := by rw [jx_u_a _ _ _ _ (by omega)]; exact e2
      try simp only [-eq_self, e22]
      have F22 : FKc a0 [48, 49] K (jx_u K a0 48 (Int32.ofInt (rs (Lr l) J i + Lr l (J.getD i 0) (J.getD (i + 1) 0)))) := FKc_f FKc_refl (by decide)
      refine ⟨_, cz_255 hV hM (FKc_MD hDK F22 (by decide) hW) hW (MN_c hNK hW (by rw [jx_u_k _ _ _ _ (by omega)]) (fun q h1 h2 => jx_u_r _ _ _ (by omega))) hGi hLm hL8 hnd rfl b2, ?_⟩
      rintro _ I26 ⟨rfl, hN2, hF2⟩
      refine ⟨_, rfl, ?_⟩
      have e49 : (jx_u K a0 48 (Int32.ofInt (rs (Lr l) J i + Lr l (J.getD i 0) (J.getD (i + 1) 0))) a0 49).toInt = jhs l J L g d i := by rw [jx_u_k _ _ _ _ (by omega)]; exact h49
      simp only [-eq_self, e49]
      intro I28 e_I28
      exact ih12 _ (by omega) _ _ rfl (⟨i + 1, rfl, by omega, by rw [e_I28, jx_u_k _ _ _ _ (by omega), hF2 a0 (by omega) (by omega), jx_u_s]; exact jy_toInt (by omega), by rw [e_I28, jx_u_s]; exact jy_toInt (by omega), by rw [e_I28]; exact MN_c hN2 hW (by rw [jx_u_k _ _ _ _ (by omega)]) (fun q h1 h2 => jx_u_r _ _ _ (by omega)), by rw [e_I28]; exact FKc_f (FKc_trans (FKc_trans hF F22) (FKc_c hF2)) (by decide)⟩)
  exact L12 _ _ _ rfl (⟨0, rfl, Or.inr rfl, by rw [jx_u_k _ _ _ _ (by omega), jx_u_s]; rfl, by rw [jx_u_s]; rfl, MN_c hN hW (by rw [jx_u_k _ _ _ _ (by omega), jx_u_k _ _ _ _ (by omega)]) (fun q h1 h2 => by rw [jx_u_r _ _ _ (by omega), jx_u_r _ _ _ (by omega)]), FKc_f (FKc_f FKc_refl (by decide)) (by decide)⟩)
theorem FK_n {m : Nat} {ks : List Nat} {I I' : jx_I} (h : FKc m ks I I') : FK m ks I I' := ⟨fun q a b c => h.1 q a b (by omega), h.2⟩
