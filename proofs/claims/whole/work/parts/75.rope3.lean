/-! ===== the reference: roped ===== -/
/-- of the reference only what is tried changes, and the fields ks -/
def FKc (m : Nat) (ks : List Nat) (I I' : jx_I) : Prop := (∀ q, q ≠ m → q ≠ m + 1286 → (q < m + 1346 ∨ m + 1366 ≤ q) → I' q = I q) ∧ ∀ k, k ∉ ks → I' m k = I m k
theorem FKc_refl {m : Nat} {ks : List Nat} {I : jx_I} : FKc m ks I I := ⟨fun _ _ _ _ => rfl, fun _ _ => rfl⟩
theorem FKc_trans {m : Nat} {ks : List Nat} {I I' I2 : jx_I} (h : FKc m ks I I') (h2 : FKc m ks I' I2) : FKc m ks I I2 := ⟨fun q a b c => (h2.1 q a b c).trans (h.1 q a b c), fun k hk => (h2.2 k hk).trans (h.2 k hk)⟩
theorem FKc_mono {m : Nat} {ks ks2 : List Nat} {I I' : jx_I} (h : FKc m ks I I') (hs : ∀ k ∈ ks, k ∈ ks2) : FKc m ks2 I I' := ⟨h.1, fun k hk => h.2 k (fun h2 => hk (hs k h2))⟩
theorem FKc_c {m : Nat} {ks : List Nat} {I I' : jx_I} (h : FC m I I') : FKc m ks I I' := ⟨fun q a b c => h q b (by omega), fun k _ => by rw [h m (by omega) (by omega)]⟩
theorem FKc_fr {m lo hi : Nat} {ks : List Nat} {I I' : jx_I} (h : FR lo hi I I') (h1 : (m + 1286 ≤ lo ∧ hi ≤ m + 1287) ∨ (m + 1346 ≤ lo ∧ hi ≤ m + 1366)) : FKc m ks I I' := ⟨fun q a b c => h q (by omega), fun k _ => by rw [h m (by omega)]⟩
theorem FKc_f {m k : Nat} {ks : List Nat} {I I' : jx_I} {v : Int32} (h : FKc m ks I I') (hk : k ∈ ks) : FKc m ks I (jx_u I' m k v) := ⟨fun q a b c => by rw [jx_u_r _ _ _ a]; exact h.1 q a b c, fun j hj => by rw [jx_u_k _ _ _ _ (by intro e; exact hj (e ▸ hk))]; exact h.2 j hj⟩
theorem FKc_u {m a k : Nat} {ks : List Nat} {I I' : jx_I} {v : Int32} (h : FKc m ks I I') (ha : a = m + 1286 ∨ (m + 1346 ≤ a ∧ a < m + 1366)) : FKc m ks I (jx_u I' a k v) := ⟨fun q b c e => by rw [jx_u_r _ _ _ (by omega)]; exact h.1 q b c e, fun j hj => by rw [jx_u_a _ _ _ _ (by omega)]; exact h.2 j hj⟩
theorem FKc_MD {m : Nat} {ks : List Nat} {I I' : jx_I} {l : LT} (h : MD I m l) (hf : FKc m ks I I') (hk : 23 ∉ ks) (hW : WT l) : MD I' m l := MD_of h (hf.2 23 hk) (fun q h1 h2 => hf.1 q (by omega) (by omega) (by omega)) hW
theorem FKc_ML {m k a : Nat} {ks : List Nat} {I I' : jx_I} {L : List Nat} (h : ML I m k a L) (hf : FKc m ks I I') (hk : k ∉ ks) (h1 : a ≠ m) (h2 : a ≠ m + 1286) (h3 : a < m + 1346 ∨ m + 1366 ≤ a) : ML I' m k a L := ML_of h (hf.2 k hk) (hf.1 a h1 h2 h3)
theorem FKc_MH {m x n c : Nat} {ks : List Nat} {I I' : jx_I} {g : GT} (h : MH I x n c g) (hf : FKc m ks I I') (h1 : ∀ j, j < c → x + j ≠ m ∧ x + j ≠ m + 1286 ∧ (x + j < m + 1346 ∨ m + 1366 ≤ x + j)) : MH I' x n c g := MH_of h (fun j hj => hf.1 _ (h1 j hj).1 (h1 j hj).2.1 (h1 j hj).2.2)
theorem FKc_MB {m : Nat} {ks : List Nat} {I I' : jx_I} {l : LT} {L : List Nat} {g d : GT} (h : MB I m l L g d) (hf : FKc m ks I I') (hk : 36 ∉ ks) (hW : WT l) : MB I' m l L g d := by
  have hn := hW.1
  exact ⟨FKc_ML h.1 hf hk (by omega) (by omega) (by omega), FKc_MH h.2.1 hf (fun j hj => by omega), FKc_MH h.2.2 hf (fun j hj => by omega)⟩
/-- GrievingCamelsModel.begins -/
theorem cz_243c {V : jx_V} (hV : V.1.stackTraces = false) {X : jx_X} {R : jx_R} {I : jx_I} {a0 : Nat} {l : LT} {L : List Nat} {g d : GT}
    (hM : MX X R a0) (hD : MD I a0 l) (hW : WT l) (hB : MB I a0 l L g d) (hG : GDn (Ln l) (Lm l) g d) (hLm : ∀ c ∈ L, c < Lm l) (hL8 : L.length ≤ 8)
    {QE : String → jx_I → Prop} : jc V 1 243 (0, 0) [.ref a0] X I R (fun rv I' => rv = none ∧ MN I' a0 l L g d ∧ FKc a0 [46] I I') QE := by
  have hW0 := hW.1
  refine wm_243 hV   (fun J2 J14 J78 hJJ => ?_)
  obtain ⟨hJ2, hJ14, hJ78⟩ := hJJ
  have hn := hW.1
  have hm := hB.1.1
  unfold wz_243
  have L2 : ∀ (n2 : Nat) (l1 : Int) (K : jx_I), n2 = ((Lm l : Int) - l1).toNat → (∃ i : Nat, l1 = i ∧ i ≤ Lm l ∧ MH K (a0 + 1347) (Ln l) i g ∧ MH K (a0 + 1356) (Ln l) i d ∧ FR (a0 + 1347) (a0 + 1364) I K) → J2 l1 K := by
    intro n2
    induction n2 using Nat.strongRecOn with
    | ind n2 ih2 =>
    intro l1 K hn2 hI2
    obtain ⟨i, rfl, hi, hg, hd, hF⟩ := hI2
    have h4 : (K (a0 + 4) 1).toInt = Lm l := by rw [hF (a0 + 4) (by omega)]; exact hD.1.2
    refine hJ2 _ _ ?_
    unfold wz_243_2
    refine ⟨s_M_0 hM, _, r_M_11 hM, _, ⟨s_M_4 hM, by decide⟩, ?_⟩
    try simp only [-eq_self, show (1 : Int).toNat = 1 from rfl, h4]
    refine ⟨by omega, by omega, ?_⟩
    refine ⟨fun hq1 => ?_, fun hq1 => ?_⟩
    · intro I8 e_I8; subst e_I8
      have L78 : ∀ (n78 : Nat) (l1 : Int) (K3 : jx_I), n78 = ((L.length : Int) - l1).toNat → (∃ i : Nat, l1 = i ∧ i ≤ L.length ∧ (∀ k, k < i → K3 (a0 + 1364) k = I (a0 + 1344) k) ∧ (K3 a0 46).toInt = L.length ∧ MH K3 (a0 + 1347) (Ln l) (Lm l) g ∧ MH K3 (a0 + 1356) (Ln l) (Lm l) d ∧ FKc a0 [46] I K3) → J78 l1 K3 := by
        intro n78
        induction n78 using Nat.strongRecOn with
        | ind n78 ih78 =>
        intro l1 K3 hn78 hI78
        obtain ⟨i, rfl, hi, hr, hm46, hg, hd, hF⟩ := hI78
        have hm2 : (K3 a0 36).toInt = L.length := by rw [hF.2 36 (by decide)]; exact hm
        refine hJ78 _ _ ?_
        unfold wz_243_78
        refine ⟨s_M_0 hM, by omega, ?_⟩
        refine ⟨fun hq2 => ?_, fun hq2 => ?_⟩
        · exact ⟨rfl, ⟨⟨hm46, fun k x hk => by
            have h9 := (List.getElem?_eq_some_iff.mp hk).1
            rw [hr k (by omega)]; exact hB.1.2 k x hk⟩, hg, hd⟩, hF⟩
        · refine ⟨_, r_M_44 hM, _, r_M_34 hM, _, ⟨s_M_1344 hM, by decide⟩, by omega, _, ⟨s_M_1364 hM, by decide⟩, by omega, ?_⟩
          intro I70 e_I70; subst e_I70
          exact ih78 _ (by omega) _ _ rfl (⟨i + 1, by omega, by omega, fun k hk => by
            rcases Nat.lt_or_ge k i with h | h
            · rw [jx_u_k _ _ _ _ (by omega)]; exact hr k h
            · rw [show k = i by omega, Int.toNat_natCast, jx_u_s, Int32.ofInt_toInt, hF.1 (a0 + 1344) (by omega) (by omega) (by omega)], by rw [jx_u_a _ _ _ _ (by omega)]; exact hm46, MH_of hg (fun c hc => jx_u_r _ _ _ (by omega)), MH_of hd (fun c hc => jx_u_r _ _ _ (by omega)), FKc_u hF (by omega)⟩)
      exact L78 _ _ _ rfl (⟨0, rfl, by omega, fun k hk => by omega, by rw [jx_u_s, hF a0 (by omega), Int32.ofInt_toInt]; exact hm, MH_of (by rw [show Lm l = i by omega]; exact hg) (fun c hc => jx_u_r _ _ _ (by omega)), MH_of (by rw [show Lm l = i by omega]; exact hd) (fun c hc => jx_u_r _ _ _ (by omega)), FKc_f (FKc_fr hF (by omega)) (by decide)⟩)
    · have hii : i < Lm l := by omega
      have L14 : ∀ (n14 : Nat) (l1 : Int) (l2 : Int) (K2 : jx_I), n14 = ((Ln l : Int) - l2).toNat → (∃ p : Nat, l1 = (i : Int) ∧ l2 = p ∧ i < Lm l ∧ p ≤ Ln l ∧ MH K2 (a0 + 1347) (Ln l) i g ∧ MH K2 (a0 + 1356) (Ln l) i d ∧ MH K2 (a0 + 1347 + i) p 1 (fun q _ => g q i) ∧ MH K2 (a0 + 1356 + i) p 1 (fun q _ => d q i) ∧ FR (a0 + 1347) (a0 + 1364) I K2) → J14 l1 l2 K2 := by
        intro n14
        induction n14 using Nat.strongRecOn with
        | ind n14 ih14 =>
        intro l1 l2 K2 hn14 hI14
        obtain ⟨p, rfl, rfl, hi, hp, hg, hd, hg1, hd1, hF⟩ := hI14
        have h4 : (K2 (a0 + 4) 0).toInt = Ln l := by rw [hF (a0 + 4) (by omega)]; exact hD.1.1
        refine hJ14 _ _ _ ?_
        unfold wz_243_14
        refine ⟨s_M_0 hM, _, r_M_11 hM, _, ⟨s_M_4 hM, by decide⟩, ?_⟩
        try simp only [-eq_self, Int.toNat_zero, h4]
        refine ⟨by omega, by omega, ?_⟩
        refine ⟨fun hq3 => ?_, fun hq3 => ?_⟩
        · exact ih2 _ (by omega) _ _ rfl (⟨i + 1, by omega, by omega, fun q c hq hc => by
            rcases Nat.lt_or_ge c i with h | h
            · exact hg q c hq h
            · have := hg1 q 0 (by omega) (by omega); rw [show c = i by omega]; simpa using this, fun q c hq hc => by
            rcases Nat.lt_or_ge c i with h | h
            · exact hd q c hq h
            · have := hd1 q 0 (by omega) (by omega); rw [show c = i by omega]; simpa using this, hF⟩)
        · have hgv : (K2 (a0 + 1288 + i) p).toInt = g p i := by rw [hF (a0 + 1288 + i) (by omega)]; exact hB.2.1 p i (by omega) hi
          have hdv : (K2 (a0 + 1297 + i) p).toInt = d p i := by rw [hF (a0 + 1297 + i) (by omega)]; exact hB.2.2 p i (by omega) hi
          have hgr := hG p i (by omega) hi
          refine ⟨_, r_M_42 hM, _, ⟨s_M_1346 hM, by decide⟩, by omega, _, rr_M_1346 hM (by omega), _, r_M_29 hM, _, ⟨s_M_1287 hM, by decide⟩, by omega, _, rr_M_1287 hM (by omega), _, ⟨sr_M_1287 hM (by omega), by decide⟩, ?_⟩
          try simp only [-eq_self, Int.toNat_natCast, hgv]
          refine ⟨by omega, _, ⟨sr_M_1346 hM (by omega), by decide⟩, ?_⟩
          try simp only [-eq_self, Int.toNat_natCast]
          refine ⟨by omega, ?_⟩
          intro I36 e_I36; subst e_I36
          refine ⟨_, r_M_43 hM, _, ⟨s_M_1355 hM, by decide⟩, by omega, _, rr_M_1355 hM (by omega), _, r_M_30 hM, _, ⟨s_M_1296 hM, by decide⟩, by omega, _, rr_M_1296 hM (by omega), _, ⟨sr_M_1296 hM (by omega), by decide⟩, ?_⟩
          have e9 : (jx_u K2 (a0 + 1347 + i) p (Int32.ofInt (g p i)) (a0 + 1297 + i) p).toInt = d p i := by rw [jx_u_a _ _ _ _ (by omega), hdv]
          try simp only [-eq_self, Int.toNat_natCast, e9]
          refine ⟨by omega, _, ⟨sr_M_1355 hM (by omega), by decide⟩, ?_⟩
          try simp only [-eq_self, Int.toNat_natCast]
          refine ⟨by omega, ?_⟩
          intro I57 e_I57; subst e_I57
          exact ih14 _ (by omega) _ _ _ rfl (⟨p + 1, rfl, by omega, hi, by omega, MH_of hg (fun c hc => by rw [jx_u_r _ _ _ (by omega), jx_u_r _ _ _ (by omega)]), MH_of hd (fun c hc => by rw [jx_u_r _ _ _ (by omega), jx_u_r _ _ _ (by omega)]), fun q c hq hc => by
            have hc0 : c = 0 := by omega
            subst hc0
            rw [jx_u_a _ _ _ _ (by omega)]
            rcases Nat.lt_or_ge q p with h | h
            · rw [jx_u_k _ _ _ _ (by omega)]; exact hg1 q 0 h (by omega)
            · rw [show a0 + 1347 + i + 0 = a0 + 1347 + i from rfl, show q = p by omega, jx_u_s]; exact jy_toInt (by omega), fun q c hq hc => by
            have hc0 : c = 0 := by omega
            subst hc0
            rcases Nat.lt_or_ge q p with h | h
            · rw [jx_u_k _ _ _ _ (by omega), jx_u_a _ _ _ _ (by omega)]; exact hd1 q 0 h (by omega)
            · rw [show a0 + 1356 + i + 0 = a0 + 1356 + i from rfl, show q = p by omega, jx_u_s]; exact jy_toInt (by omega), FR_u (FR_u hF (by omega) (by omega)) (by omega) (by omega)⟩)
      exact L14 _ _ _ _ rfl (⟨0, rfl, rfl, by omega, by omega, hg, hd, fun q c hq hc => by omega, fun q c hq hc => by omega, hF⟩)
  exact L2 _ _ _ rfl (⟨0, rfl, by omega, fun p c _ hc => by omega, fun p c _ hc => by omega, FR_refl⟩)
/-- GrievingCamelsModel.goes -/
theorem cz_258c {V : jx_V} (hV : V.1.stackTraces = false) {X : jx_X} {R : jx_R} {I : jx_I} {a0 : Nat} {l : LT} {L : List Nat} {g d : GT} {J : List Nat}
    (hM : MX X R a0) (hD : MD I a0 l) (hW : WT l) (hN : MN I a0 l L g d) (hG : GDn (Ln l) (Lm l) g d) (hLm : ∀ c ∈ L, c < Lm l) (hL8 : L.length ≤ 8) (hnd : L.Nodup) (hJ : ML I a0 37 (a0 + 1345) J) (hJn : ∀ c ∈ J, c < Ln l) (hJ12 : J.length ≤ 12)
    {QE : String → jx_I → Prop} : jc V 5 258 (0, 0) [.ref a0] X I R (fun rv I' => rv = some (jy (rs (Lr l) J (J.length - 1) + jhs l J L g d (J.length - 1))) ∧ (I' a0 48).toInt = rs (Lr l) J (J.length - 1) ∧ (I' a0 49).toInt = jhs l J L g d (J.length - 1) ∧ MN I' a0 l L (jst l J L g d (J.length - 1)).1 (jst l J L g d (J.length - 1)).2 ∧ FKc a0 [48, 49] I I') QE := by
  have hW0 := hW.1
  refine wm_258 hV   (fun J12 hJJ => ?_)
  have hJ12 := hJJ
  have hn := hW.1
  unfold wz_258
  refine ⟨s_M_0 hM, ?_⟩
  intro I2 e_I2; subst e_I2
  intro I3 e_I3; subst e_I3
  have L12 : ∀ (n12 : Nat) (l1 : Int) (K : jx_I), n12 = ((J.length : Int) - l1).toNat → (∃ i : Nat, l1 = (i + 1 : Nat) ∧ (i < J.length ∨ i = 0) ∧ (K a0 48).toInt = rs (Lr l) J i ∧ (K a0 49).toInt = jhs l J L g d i ∧ MN K a0 l L (jst l J L g d i).1 (jst l J L g d i).2 ∧ FKc a0 [48, 49] I K) → J12 l1 K := by
    intro n12
    induction n12 using Nat.strongRecOn with
    | ind n12 ih12 =>
    intro l1 K hn12 hI12
    obtain ⟨i, rfl, hi, h48, h49, hNK, hF⟩ := hI12
    have hJK := FKc_ML hJ hF (by decide) (by omega) (by omega) (by omega)
    have hm := hJK.1
    have hDK := FKc_MD hD hF (by decide) hW
    have hGi := GDn_j (l := l) hG hJn hLm i hi
    have hrg := jhs_rng l J L g d i
    refine hJ12 _ _ ?_
    unfold wz_258_12
    refine ⟨s_M_0 hM, by omega, ?_⟩
    refine ⟨fun hq1 => ?_, fun hq1 => ?_⟩
    · rw [show J.length - 1 = i by omega]
      exact ⟨by rw [h48, h49], h48, h49, hNK, hF⟩
    · obtain ⟨e1, m1⟩ := ML_gd hJK (i := i) (by omega)
      obtain ⟨e2, m2⟩ := ML_gd hJK (i := i + 1) (by omega)
      have b1 := hJn _ m1
      have b2 := hJn _ m2
      have hrr := (hW.2.2.1 _ _ b1 b2).1
      have hrv := hDK.2.2.1 _ _ b1 b2
      have hrb := rs_rng (r := Lr l) (J := J) (b := 24) (fun k hk => by
        obtain ⟨e1, m1⟩ := ML_gd hJK (i := k) (by omega)
        obtain ⟨e2, m2⟩ := ML_gd hJK (i := k + 1) (by omega)
        exact (hW.2.2.1 _ _ (hJn _ m1) (hJn _ m2)).1) i (by omega)
      have hht := hlt_rng (Lc l) (L.map ((jst l J L g d i).1 (J.getD (i + 1) 0))) (nd (Lk l (J.getD (i + 1) 0)))
      refine ⟨_, r_M_21 hM, _, r_M_35 hM, _, ⟨s_M_1345 hM, by decide⟩, ?_⟩
      try simp only [-eq_self, show (((i + 1 : Nat) : Int) - 1).toNat = i by omega, show ((i + 1 : Nat) : Int).toNat = i + 1 by omega, e1, e2]
      refine ⟨by omega, _, ⟨s_M_24 hM, by decide⟩, by omega, _, rr_M_24 hM (by omega), by omega, _, ⟨sr_M_24 hM (by omega), by decide⟩, ?_⟩
      try simp only [-eq_self, Int.toNat_natCast, hrv, h48, h49]
      refine ⟨by omega, ?_⟩
      intro I22 e_I22; subst e_I22
      refine ⟨by omega, ?_⟩
      have e22 : (jx_u K a0 48 (Int32.ofInt (rs (Lr l) J i + Lr l (J.getD i 0) (J.getD (i + 1) 0))) (a0 + 1345) (i + 1)).toInt = ((J.getD (i + 1) 0 : Nat) : Int) := by rw [jx_u_a _ _ _ _ (by omega)]; exact e2
      try simp only [-eq_self, e22]
      have F22 : FKc a0 [48, 49] K (jx_u K a0 48 (Int32.ofInt (rs (Lr l) J i + Lr l (J.getD i 0) (J.getD (i + 1) 0)))) := FKc_f FKc_refl (by decide)
      refine ⟨_, cz_255 hV hM (FKc_MD hDK F22 (by decide) hW) hW (MN_c hNK hW (by rw [jx_u_k _ _ _ _ (by omega)]) (fun q h1 h2 => jx_u_r _ _ _ (by omega))) hGi hLm hL8 hnd rfl b2, ?_⟩
      rintro _ I26 ⟨rfl, hN2, hF2⟩
      refine ⟨_, rfl, ?_⟩
      have e49 : (jx_u K a0 48 (Int32.ofInt (rs (Lr l) J i + Lr l (J.getD i 0) (J.getD (i + 1) 0))) a0 49).toInt = jhs l J L g d i := by rw [jx_u_k _ _ _ _ (by omega)]; exact h49
      simp only [-eq_self, e49]
      intro I28 e_I28
      exact ih12 _ (by omega) _ _ rfl (⟨i + 1, rfl, by omega, by rw [e_I28, jx_u_k _ _ _ _ (by omega), hF2 a0 (by omega) (by omega), jx_u_s]; exact jy_toInt (by omega), by rw [e_I28, jx_u_s]; exact jy_toInt (by omega), by rw [e_I28]; exact MN_c hN2 hW (by rw [jx_u_k _ _ _ _ (by omega)]) (fun q h1 h2 => jx_u_r _ _ _ (by omega)), by rw [e_I28]; exact FKc_f (FKc_trans (FKc_trans hF F22) (FKc_c hF2)) (by decide)⟩)
  exact L12 _ _ _ rfl (⟨0, rfl, Or.inr rfl, by rw [jx_u_k _ _ _ _ (by omega), jx_u_s]; rfl, by rw [jx_u_s]; rfl, MN_c hN hW (by rw [jx_u_k _ _ _ _ (by omega), jx_u_k _ _ _ _ (by omega)]) (fun q h1 h2 => by rw [jx_u_r _ _ _ (by omega), jx_u_r _ _ _ (by omega)]), FKc_f (FKc_f FKc_refl (by decide)) (by decide)⟩)
theorem FK_n {m : Nat} {ks : List Nat} {I I' : jx_I} (h : FKc m ks I I') : FK m ks I I' := ⟨fun q a b c => h.1 q a b (by omega), h.2⟩
/-- what ropes leaves -/
def QS (l : LT) (c : CT) (P : List Nat) (B : Nat) (s : Int × Int) : Int × Int := (cmp (Lf l) (bl B 8).length P.getLast? (bl B 8)).foldl (fun s L => rs1 l c s (P ++ L)) s
def Q274 (m : Nat) (l : LT) (c : CT) (P : List Nat) (B : Nat) (s : Int × Int) (I : jx_I) : Option Value → jx_I → Prop := fun rv I' => rv = none ∧ (I' m 53).toInt = (QS l c P B s).1 ∧ (I' m 54).toInt = (QS l c P B s).2 ∧ FK m [46, 48, 49, 53, 54] I I' ∧ ∀ i, i < P.length → I' (m + 1369) i = I (m + 1369) i
/-- ropes of less than t camels left -/
def G274 (V : jx_V) (X : jx_X) (R : jx_R) (m : Nat) (l : LT) (c : CT) (t : Nat) : Prop := ∀ (d B : Nat) (P : List Nat) (I : jx_I) (s : Int × Int) (QE : String → jx_I → Prop), (bl B 8).length < t → MSX I m l c → B < 2 ^ Lm l → (∀ (i x : Nat), P[i]? = some x → (I (m + 1369) i).toInt = (x : Int)) → (∀ x ∈ P, x < Lm l) → (P ++ bl B 8).Nodup → P.length + (bl B 8).length ≤ 6 → (I m 53).toInt = s.1 → (I m 54).toInt = s.2 → -1 ≤ s.1 ∧ s.1 ≤ 1500 → 20 + (bl B 8).length ≤ d → jc V d 274 (0, 0) [.ref m, jy (B : Int), jy (P.length : Int), jy ((dec P : Nat) : Int)] X I R (Q274 m l c P B s I) QE
theorem bdf_lt {A B n : Nat} (h : A < 2 ^ n) : bdf A B < 2 ^ n := bdf_le A B h
/-- GrievingCamelsModel.ropes -/
theorem cz_274s {V : jx_V} (hV : V.1.stackTraces = false) {d : Nat} {X : jx_X} {R : jx_R} {I : jx_I} {a0 : Nat} {a1 : Int} {a2 : Int} {a3 : Int} {l : LT} {c : CT} {Bt : Nat} {P : List Nat} {s : Int × Int}
    (hM : MX X R a0) (hX : MSX I a0 l c) (hW : WT l) (hC : WC l c) (hj : CJ c ≠ []) (h1 : a1 = (Bt : Int)) (hBt : Bt < 2 ^ Lm l) (h2 : a2 = (P.length : Int)) (h3 : a3 = ((dec P : Nat) : Int)) (hP : ∀ (i x : Nat), P[i]? = some x → (I (a0 + 1369) i).toInt = (x : Int)) (hPm : ∀ x ∈ P, x < Lm l) (hnd : (P ++ bl Bt 8).Nodup) (hln : P.length + (bl Bt 8).length ≤ 6) (h53 : (I a0 53).toInt = s.1) (h54 : (I a0 54).toInt = s.2) (hsr0 : -1 ≤ s.1 ∧ s.1 ≤ 1500) (hd : 20 + (bl Bt 8).length ≤ d) (ih : G274 V X R a0 l c (bl Bt 8).length)
    {QE : String → jx_I → Prop} : jc V d 274 (0, 0) [.ref a0, jy a1, jy a2, jy a3] X I R (Q274 a0 l c P Bt s I) QE := by
  have hW0 := hW.1
  have hW0 := hW.1
  have hB8 : Bt < 256 := Nat.lt_of_lt_of_le hBt (Nat.pow_le_pow_right (by omega) hW0.2 : 2 ^ Lm l ≤ 2 ^ 8)
  have hJ1 := WC_J hC hj
  have hdP : dec P < 1000000 := dec6 (by omega) (fun x hx => by have := hPm x hx; omega)
  obtain ⟨FF, hFF⟩ : ∃ FF : Nat → List (List Nat), FF = fun c => if okq (Lf l) P.getLast? c = true then (cmp (Lf l) ((bl Bt 8).length - 1) (some c) ((bl Bt 8).erase c)).map (c :: ·) else [] := ⟨_, rfl⟩
  obtain ⟨GG, hGG⟩ : ∃ GG : Int × Int → List Nat → Int × Int, GG = fun s L => rs1 l c s (P ++ L) := ⟨_, rfl⟩
  subst h1
  subst h2
  subst h3
  refine wm_274 hV (by omega) (by omega) (by omega)  (fun J16 J81 J160 hJJ => ?_)
  obtain ⟨hJ16, hJ81, hJ160⟩ := hJJ
  unfold wz_274
  refine ⟨fun hq1 => ?_, fun hq1 => ?_⟩
  · have hB0 : bl Bt 8 ≠ [] := bl_ne hB8 (by omega)
    have hlen0 : 1 ≤ (bl Bt 8).length := List.length_pos_iff.mpr hB0
    have hQS : QS l c P Bt s = ((bl Bt 8).flatMap FF).foldl GG s := by
      unfold QS
      rw [hGG, hFF]
      obtain ⟨n, hn⟩ : ∃ n, (bl Bt 8).length = n + 1 := ⟨_, (Nat.sub_add_cancel hlen0).symm⟩
      rw [hn]
      rfl
    have hbt : bl Bt (Lm l) = bl Bt 8 := (bl_top (B := Bt) (m := Lm l) hBt 8 hW0.2).symm
    have L81 : ∀ (n81 : Nat) (l4 : Int) (K : jx_I), n81 = ((Lm l : Int) - l4).toNat → (∃ k : Nat, l4 = (k : Int) ∧ k ≤ Lm l ∧ (K a0 53).toInt = (((bl Bt k).flatMap FF).foldl GG s).1 ∧ (K a0 54).toInt = (((bl Bt k).flatMap FF).foldl GG s).2 ∧ FK a0 [46, 48, 49, 53, 54] I K ∧ ∀ i, i < P.length → K (a0 + 1369) i = I (a0 + 1369) i) → J81 l4 K := by
      intro n81
      induction n81 using Nat.strongRecOn with
      | ind n81 ih81 =>
      intro l4 K hn81 hI81
      obtain ⟨k, rfl, hk, hs1, hs2, hF, hc⟩ := hI81
      have hXK := MSX_k hX hF hW (by decide) (by decide) (by decide) (by decide) (by decide)
      have h41 := hXK.1.1.2
      have hsr := rs1_k hW hC hj (f := fun L => P ++ L) ((bl Bt k).flatMap FF) s hsr0
      rw [← hGG] at hsr
      refine hJ81 _ _ ?_
      unfold wz_274_81
      refine ⟨s_M_0 hM, _, r_M_11 hM, _, ⟨s_M_4 hM, by decide⟩, ?_⟩
      try simp only [-eq_self, show (1 : Int).toNat = 1 from rfl, h41]
      refine ⟨by omega, by omega, ?_⟩
      refine ⟨fun hq2 => ?_, fun hq2 => ?_⟩
      · have hkL : k = Lm l := by omega
        rw [hkL, hbt, ← hQS] at hs1 hs2
        exact ⟨rfl, hs1, hs2, hF, hc⟩
      · have hbit := jz_bit (B := Bt) (k := k) (by omega) (by omega)
        simp only [-eq_self, hbit]
        have h01 := bN_01 Bt k
        refine ⟨fun hq3 => ?_, fun hq3 => ?_⟩
        · exact ih81 _ (by omega) _ _ rfl (⟨k + 1, by omega, by omega, by rw [bl_0 (show bN Bt k = 0 by omega)]; exact hs1, by rw [bl_0 (show bN Bt k = 0 by omega)]; exact hs2, hF, hc⟩)
        · have hl8 : 2 ^ Lm l ≤ 256 := (Nat.pow_le_pow_right (by omega) hW0.2 : 2 ^ Lm l ≤ 2 ^ 8)
          have hkm : k ∈ bl Bt 8 := bl_mem.mpr ⟨by omega, by omega⟩
          have hle9 : 1 ≤ (bl Bt 8).length := List.length_pos_of_mem hkm
          have hbk : bl Bt (k + 1) = bl Bt k ++ [k] := bl_1 (by omega)
          have hpk : 2 ^ k < 2 ^ Lm l := Nat.pow_lt_pow_right (by omega) (by omega)
          have hadn := jz_adn (A := Bt) (B := 2 ^ k) (by omega) (by omega)
          have hP6 : dec P < 1000000 := dec6 (by omega) (fun x hx => by have := hPm x hx; omega)
          have hdig : 10 * ((dec P : Nat) : Int) + (k : Int) = ((dec (P ++ [k]) : Nat) : Int) := by rw [dec_app]; omega
          have hlen1 : (P.length : Int) + 1 = ((P ++ [k]).length : Int) := by rw [List.length_append, List.length_singleton]; omega
          have hkP : k ∉ P := fun e => by
            have := (List.nodup_append.mp hnd).2.2 k e k hkm
            exact this rfl
          have hPm2 : ∀ x ∈ P ++ [k], x < Lm l := fun x hx => by
            rcases List.mem_append.mp hx with e | e
            · exact hPm x e
            · rw [List.mem_singleton.mp e]; omega
          have hnd2 : ((P ++ [k]) ++ bl (bdf Bt (2 ^ k)) 8).Nodup := by
            rw [bl_er, List.append_assoc]
            refine List.nodup_append.mpr ⟨(List.nodup_append.mp hnd).1, List.nodup_cons.mpr ⟨List.Nodup.not_mem_erase (bl_nd Bt 8), (bl_nd Bt 8).erase k⟩, fun a ha b hb => ?_⟩
            rcases List.mem_cons.mp hb with e | e
            · rw [e]; exact fun e2 => hkP (e2 ▸ ha)
            · exact (List.nodup_append.mp hnd).2.2 a ha b (List.mem_of_mem_erase e)
          have hX2 : MSX (jx_u K (a0 + 1369) P.length (Int32.ofInt (k : Int))) a0 l c := MSX_k hX (FK_u hF (by omega)) hW (by decide) (by decide) (by decide) (by decide) (by decide)
          have hP2 : ∀ (i x : Nat), (P ++ [k])[i]? = some x → ((jx_u K (a0 + 1369) P.length (Int32.ofInt (k : Int))) (a0 + 1369) i).toInt = (x : Int) := fun i x hi => by
            rcases Nat.lt_or_ge i P.length with e | e
            · rw [List.getElem?_append_left e] at hi
              rw [jx_u_k _ _ _ _ (by omega), hc i e]; exact hP i x hi
            · have hil := gi_lt hi
              rw [List.length_append, List.length_singleton] at hil
              have hie : i = P.length := by omega
              subst hie
              rw [List.getElem?_append_right (Nat.le_refl _), Nat.sub_self] at hi
              have hx : k = x := Option.some.inj hi
              rw [jx_u_s, hx]; exact jy_toInt (by omega)
          have hFk : okq (Lf l) P.getLast? k = true → FF k = (cmp (Lf l) ((bl Bt 8).length - 1) (some k) ((bl Bt 8).erase k)).map (k :: ·) := fun h => by rw [hFF]; exact if_pos h
          have hst : ((bl Bt (k + 1)).flatMap FF).foldl GG s = (FF k).foldl GG (((bl Bt k).flatMap FF).foldl GG s) := by rw [hbk]; exact fo_fm _ _ _
          have hrec : okq (Lf l) P.getLast? k = true → QS l c (P ++ [k]) (bdf Bt (2 ^ k)) (((bl Bt k).flatMap FF).foldl GG s) = ((bl Bt (k + 1)).flatMap FF).foldl GG s := fun h => by
            rw [hst, hFk h, List.foldl_map]
            unfold QS
            rw [bl_er, List.length_erase_of_mem hkm, List.getLast?_append, hGG]
            simp only [-eq_self, List.append_assoc, List.singleton_append, List.getLast?_singleton, Option.or_some]
            rfl
          refine ⟨fun hq4 => ?_, fun hq4 => ?_⟩
          · have hP0 : P = [] := List.eq_nil_of_length_eq_zero (by omega)
            have hok : okq (Lf l) P.getLast? k = true := by rw [hP0]; rfl
            refine ⟨_, r_M_52 hM, _, ⟨s_M_1369 hM, by decide⟩, ?_⟩
            try simp only [-eq_self, Int.toNat_natCast]
            refine ⟨by omega, ?_⟩
            intro I44 e_I44; subst e_I44
            simp only [-eq_self, jz_1sh (show k < 31 by omega), hadn, hdig, hlen1]
            refine ⟨_, by omega, _, ih (d - 1) (bdf Bt (2 ^ k)) (P ++ [k]) (jx_u K (a0 + 1369) P.length (Int32.ofInt (k : Int))) (((bl Bt k).flatMap FF).foldl GG s) _ (by rw [bl_er, List.length_erase_of_mem hkm]; omega) hX2 (bdf_lt hBt) hP2 hPm2 hnd2 (by rw [bl_er, List.length_erase_of_mem hkm, List.length_append, List.length_singleton]; omega) (by rw [jx_u_a _ _ _ _ (by omega)]; exact hs1) (by rw [jx_u_a _ _ _ _ (by omega)]; exact hs2) hsr (by rw [bl_er, List.length_erase_of_mem hkm]; omega), ?_⟩
            rintro _ I49 ⟨rfl, h53, h54, hF9, hc9⟩
            refine ⟨rfl, ?_⟩
            have hq9 := hrec hok
            refine hJ160 _ _ ?_
            unfold wz_274_160
            exact ih81 _ (by omega) _ _ rfl (⟨k + 1, by omega, by omega, by rw [← hq9]; exact h53, by rw [← hq9]; exact h54, FK_trans (FK_u hF (by omega)) hF9, fun i hi => by rw [hc9 i (by omega), jx_u_k _ _ _ _ (by omega)]; exact hc i hi⟩)
          · obtain ⟨P1, q, hPq⟩ : ∃ P1 q, P = P1 ++ [q] := ⟨P.dropLast, P.getLast (fun e => by rw [e] at hq4; exact hq4 (by decide)), (List.dropLast_concat_getLast _).symm⟩
            have hPl : P.length = P1.length + 1 := by rw [hPq, List.length_append, List.length_singleton]
            have hgl : P.getLast? = some q := by rw [hPq]; simp
            have hqm := hPm q (by rw [hPq]; simp)
            have hcq : (K (a0 + 1369) P1.length).toInt = (q : Int) := by rw [hc _ (by omega)]; exact hP P1.length q (by rw [hPq]; simp)
            have hfk := (hXK.1.2.2.2.1 k (by omega)).2.2
            have hfr := (hW.2.2.2.1 k (by omega)).2.2
            have hbit2 := jz_bit (B := Lf l k) (k := q) (by omega) (by omega)
            refine ⟨_, r_M_19 hM, _, ⟨s_M_12 hM, by decide⟩, by omega, _, r_M_52 hM, _, ⟨s_M_1369 hM, by decide⟩, ?_⟩
            try simp only [-eq_self, show ((P.length : Int) - 1).toNat = P1.length by omega, Int.toNat_natCast, hcq, hfk, hbit2]
            refine ⟨by omega, ?_⟩
            refine ⟨fun hq5 => ?_, fun hq5 => ?_⟩
            · have hok : okq (Lf l) P.getLast? k = true := by rw [hgl]; exact decide_eq_true (by omega)
              refine ⟨by omega, ?_⟩
              intro I62 e_I62; subst e_I62
              simp only [-eq_self, jz_1sh (show k < 31 by omega), hadn, hdig, hlen1]
              refine ⟨_, by omega, _, ih (d - 1) (bdf Bt (2 ^ k)) (P ++ [k]) (jx_u K (a0 + 1369) P.length (Int32.ofInt (k : Int))) (((bl Bt k).flatMap FF).foldl GG s) _ (by rw [bl_er, List.length_erase_of_mem hkm]; omega) hX2 (bdf_lt hBt) hP2 hPm2 hnd2 (by rw [bl_er, List.length_erase_of_mem hkm, List.length_append, List.length_singleton]; omega) (by rw [jx_u_a _ _ _ _ (by omega)]; exact hs1) (by rw [jx_u_a _ _ _ _ (by omega)]; exact hs2) hsr (by rw [bl_er, List.length_erase_of_mem hkm]; omega), ?_⟩
              rintro _ I67 ⟨rfl, h53, h54, hF9, hc9⟩
              refine ⟨rfl, ?_⟩
              have hq9 := hrec hok
              refine hJ160 _ _ ?_
              unfold wz_274_160
              exact ih81 _ (by omega) _ _ rfl (⟨k + 1, by omega, by omega, by rw [← hq9]; exact h53, by rw [← hq9]; exact h54, FK_trans (FK_u hF (by omega)) hF9, fun i hi => by rw [hc9 i (by omega), jx_u_k _ _ _ _ (by omega)]; exact hc i hi⟩)
            · have hno : ¬ okq (Lf l) P.getLast? k = true := by rw [hgl]; exact fun e => (of_decide_eq_true e) (by omega)
              have hst0 : ((bl Bt (k + 1)).flatMap FF).foldl GG s = ((bl Bt k).flatMap FF).foldl GG s := by rw [hst, hFF]; simp only [if_neg hno]; rfl
              refine hJ160 _ _ ?_
              unfold wz_274_160
              exact ih81 _ (by omega) _ _ rfl (⟨k + 1, by omega, by omega, by rw [hst0]; exact hs1, by rw [hst0]; exact hs2, hF, hc⟩)
    exact L81 _ _ _ rfl (⟨0, rfl, by omega, h53, h54, FK_refl, fun _ _ => rfl⟩)
  · refine ⟨s_M_0 hM, ?_⟩
    refine ⟨by omega, _, cz_243c hV hM hX.1 hW hX.2.1 (GDn_w hW hC) hC.2.1.2 (WC_8 hW hC), ?_⟩
    rintro _ I5 ⟨rfl, hN1, hF1⟩
    refine ⟨rfl, ?_⟩
    have hc5 : ∀ (i x : Nat), P[i]? = some x → (I5 (a0 + 1369) i).toInt = (x : Int) := fun i x hi => by rw [hF1.1 (a0 + 1369) (by omega) (by omega) (by omega)]; exact hP i x hi
    intro I7 e_I7; subst e_I7
    have L16 : ∀ (n16 : Nat) (l4 : Int) (K : jx_I), n16 = ((P.length : Int) - l4).toNat → (∃ i : Nat, l4 = (i : Int) ∧ i ≤ P.length ∧ (∀ (j x : Nat), j < i → P[j]? = some x → (K (a0 + 1364) j).toInt = (x : Int)) ∧ ∀ q, q ≠ a0 + 1364 → K q = (jx_u I5 a0 46 (Int32.ofInt (P.length : Int))) q) → J16 l4 K := by
      intro n16
      induction n16 using Nat.strongRecOn with
      | ind n16 ih16 =>
      intro l4 K hn16 hI16
      obtain ⟨i, rfl, hi, hK, hQ⟩ := hI16
      refine hJ16 _ _ ?_
      unfold wz_274_16
      refine ⟨by omega, ?_⟩
      refine ⟨fun hq6 => ?_, fun hq6 => ?_⟩
      · have hFq : FKc a0 [46] I K := by
          have h9 := FKc_f (v := Int32.ofInt (P.length : Int)) hF1 (show 46 ∈ [46] by decide)
          exact ⟨fun q a b e => by rw [hQ q (by omega)]; exact h9.1 q a b e, fun k hk => by rw [hQ a0 (by omega)]; exact h9.2 k hk⟩
        have hiq : i = P.length := by omega
        have HD9 := FKc_MD hX.1 hFq (by decide) hW
        have HJ9 := FKc_ML hX.2.2.1 hFq (by decide) (by omega) (by omega) (by omega)
        have HN9 : MN K a0 l P (Cg c) (Cd c) := ⟨⟨by rw [hQ a0 (by omega), jx_u_s]; exact jy_toInt (by omega), fun j x h => hK j x (by rw [hiq]; exact gi_lt h) h⟩, MH_of hN1.2.1 (fun c hc => by rw [hQ _ (by omega), jx_u_r _ _ _ (by omega)]), MH_of hN1.2.2 (fun c hc => by rw [hQ _ (by omega), jx_u_r _ _ _ (by omega)])⟩
        have h53c : (K a0 53).toInt = s.1 := by rw [hFq.2 53 (by decide)]; exact h53
        have h54c : (K a0 54).toInt = s.2 := by rw [hFq.2 54 (by decide)]; exact h54
        refine ⟨s_M_0 hM, ?_⟩
        refine ⟨by omega, _, cz_258c (L := P) hV hM HD9 hW HN9 (GDn_w hW hC) hPm (by omega) (List.nodup_append.mp hnd).1 HJ9 hJ1.2.1 hJ1.1.2, ?_⟩
        rintro _ I13 ⟨rfl, h48, h49, hN9, hF9⟩
        refine ⟨_, rfl, ?_⟩
        have hr := hrs_rng hW hJ1.2.1 hJ1.1.2 P (Cg c) (Cd c)
        unfold hrs at hr
        have hd3 : (I13 a0 53).toInt = s.1 := by rw [hF9.2 53 (by decide)]; exact h53c
        have hd4 : (I13 a0 54).toInt = s.2 := by rw [hF9.2 54 (by decide)]; exact h54c
        have hFF9 : FK a0 [46, 48, 49, 53, 54] I I13 := FK_trans (FK_mono (FK_n hFq) (by decide)) (FK_mono (FK_n hF9) (by decide))
        have hch : ∀ i, I13 (a0 + 1369) i = I (a0 + 1369) i := fun i => by rw [hF9.1 _ (by omega) (by omega) (by omega), hFq.1 _ (by omega) (by omega) (by omega)]
        have hQ0 : QS l c P Bt s = rs1 l c s P := by
          have hB0 : Bt = 0 := by omega
          unfold QS
          rw [hB0, show bl 0 8 = [] by decide]
          show rs1 l c s (P ++ []) = _
          rw [List.append_nil]
        have hpos : (s.1 = -1 ∨ hrs l (CJ c) P (Cg c) (Cd c) < s.1) → rs1 l c s P = (hrs l (CJ c) P (Cg c) (Cd c), (dec P : Int)) := fun h => if_pos h
        have hneg : ¬ (s.1 = -1 ∨ hrs l (CJ c) P (Cg c) (Cd c) < s.1) → rs1 l c s P = s := fun h => if_neg h
        unfold hrs at hpos hneg
        refine ⟨fun hq7 => ?_, fun hq7 => ?_⟩
        · intro I15 e_I15; subst e_I15
          intro I16 e_I16; subst e_I16
          unfold Q274
          rw [hQ0, hpos (Or.inl (by omega))]
          exact ⟨rfl, by rw [jx_u_k _ _ _ _ (by omega), jx_u_s]; exact jy_toInt (by omega), by rw [jx_u_s]; exact jy_toInt (by omega), FK_f (FK_f hFF9 (by decide)) (by decide), fun i _ => by rw [jx_u_a _ _ _ _ (by omega), jx_u_a _ _ _ _ (by omega)]; exact hch i⟩
        · refine ⟨by omega, ?_⟩
          refine ⟨fun hq8 => ?_, fun hq8 => ?_⟩
          · intro I18 e_I18; subst e_I18
            intro I19 e_I19; subst e_I19
            unfold Q274
            rw [hQ0, hpos (Or.inr (by omega))]
            exact ⟨rfl, by rw [jx_u_k _ _ _ _ (by omega), jx_u_s]; exact jy_toInt (by omega), by rw [jx_u_s]; exact jy_toInt (by omega), FK_f (FK_f hFF9 (by decide)) (by decide), fun i _ => by rw [jx_u_a _ _ _ _ (by omega), jx_u_a _ _ _ _ (by omega)]; exact hch i⟩
          · unfold Q274
            rw [hQ0, hneg (by omega)]
            exact ⟨rfl, hd3, hd4, hFF9, fun i _ => hch i⟩
      · obtain ⟨y, hy⟩ : ∃ y, P[i]? = some y := ⟨_, List.getElem?_eq_getElem (by omega)⟩
        have hcy : (K (a0 + 1369) i).toInt = (y : Int) := by rw [hQ _ (by omega), jx_u_r _ _ _ (by omega)]; exact hc5 i y hy
        refine ⟨s_M_0 hM, _, r_M_44 hM, _, r_M_52 hM, _, ⟨s_M_1369 hM, by decide⟩, by omega, _, ⟨s_M_1364 hM, by decide⟩, ?_⟩
        try simp only [-eq_self, Int.toNat_natCast, hcy]
        refine ⟨by omega, ?_⟩
        intro I31 e_I31; subst e_I31
        exact ih16 _ (by omega) _ _ rfl (⟨i + 1, by omega, by omega, fun j x hj hx => by
          rcases Nat.lt_or_ge j i with e | e
          · rw [jx_u_k _ _ _ _ (by omega)]; exact hK j x e hx
          · have hji : j = i := by omega
            have hym := hPm y (List.mem_of_getElem? hy)
            rw [hji] at hx ⊢
            rw [hx] at hy
            rw [jx_u_s, Option.some.inj hy]; exact jy_toInt (by omega), fun q hq => by rw [jx_u_r _ _ _ hq]; exact hQ q hq⟩)
    exact L16 _ _ _ rfl (⟨0, rfl, by omega, fun j x h => absurd h (by omega), fun _ _ => rfl⟩)
/-- ropes of the reference -/
theorem cz_274 {V : jx_V} (hV : V.1.stackTraces = false) {X : jx_X} {R : jx_R} {m : Nat} {l : LT} {c : CT} (hM : MX X R m) (hW : WT l) (hC : WC l c) (hj : CJ c ≠ []) : ∀ t, G274 V X R m l c t
  | 0 => fun d B P I s QE h => absurd h (by omega)
  | t + 1 => fun d B P I s QE h hX hB hP hPm hnd hln h53 h54 hsr hd => cz_274s hV hM hX hW hC hj rfl hB rfl rfl hP hPm hnd hln h53 h54 hsr hd (fun d2 B2 P2 I2 s2 QE2 h2 => cz_274 hV hM hW hC hj t d2 B2 P2 I2 s2 QE2 (by omega))
theorem QS_rop {l : LT} {c : CT} (hW : WT l) (hC : WC l c) (hj : CJ c ≠ []) {B : Nat} (hB : B < 2 ^ Lm l) (x : Int) : (QS l c [] B (-1, x)).1 = (rop l c B).1 ∧ ((QS l c [] B (-1, x)).1 ≠ -1 → (QS l c [] B (-1, x)).2 = (dec (rop l c B).2 : Int)) := by
  have h := rs1_rst hW hC hj (lexp (bl B 8).length (bl B 8)) (-1, x) (-1, []) (fun L hL y hy => ?_) (Int.le_refl _) rfl (fun h => absurd rfl h)
  · have e : QS l c [] B (-1, x) = ((lexp (bl B 8).length (bl B 8)).filter (nq (Lf l) none)).foldl (rs1 l c) (-1, x) := by
      unfold QS
      rw [show ([] : List Nat).getLast? = none from rfl, cmp_f]
      rfl
    rw [e]
    exact h
  · have hy2 := (lexp_in _ _ L hL).2 y hy
    have h2 := bl_mem.mp hy2
    rcases Nat.lt_or_ge y (Lm l) with k | k
    · exact k
    · exfalso
      have h3 : B.testBit y = false := Nat.testBit_lt_two_pow (Nat.lt_of_lt_of_le hB (Nat.pow_le_pow_right (by omega) k))
      have h4 := h2.2
      rw [bN_t] at h3
      simp at h3
      exact h3 h4
theorem cz_274e {V : jx_V} (hV : V.1.stackTraces = false) {X : jx_X} {R : jx_R} {m B : Nat} {a1 x : Int} {l : LT} {c : CT} {I : jx_I} {QE : String → jx_I → Prop} (hM : MX X R m) (hW : WT l) (hC : WC l c) (hj : CJ c ≠ []) (h1 : a1 = (B : Int)) (hX : MSX I m l c) (hB : B < 2 ^ Lm l) (h6 : (bl B 8).length ≤ 6) (h53 : (I m 53).toInt = -1) (h54 : (I m 54).toInt = x) : jc V 200 274 (0, 0) [.ref m, jy a1, jy 0, jy 0] X I R (Q274 m l c [] B (-1, x) I) QE := by
  subst h1
  exact cz_274 hV hM hW hC hj 9 200 B [] I (-1, x) QE (by omega) hX hB (fun i x h => absurd h (by simp)) (fun x h => absurd h (by simp)) (by rw [List.nil_append]; exact bl_nd B 8) (by rw [List.length_nil]; omega) h53 h54 ⟨Int.le_refl _, by omega⟩ (by omega)
/-- GrievingCamelsModel.roped -/
theorem cz_275 {V : jx_V} (hV : V.1.stackTraces = false) {X : jx_X} {R : jx_R} {I : jx_I} {a0 : Nat} {a1 : Int} {a2 : Int} {l : LT} {c : CT} 
    (hM : MX X R a0) (hX : MSX I a0 l c) (hW : WT l) (hC : WC l c) (r_a1 : -2147483648 ≤ a1 ∧ a1 < 2147483648) (r_a2 : -2147483648 ≤ a2 ∧ a2 < 2147483648)
    {QE : String → jx_I → Prop} : jc V 201 275 (0, 0) [.ref a0, jy a1, jy a2] X I R (fun rv I' => (nzw (((0 ≤ a1 ∧ a1 < ((2 ^ Lm l : Nat) : Int)) ∧ (1 ≤ (pc a1.toNat : Int) ∧ (pc a1.toNat : Int) ≤ 6) ∧ (0 ≤ a2 ∧ a2 ≤ 1))) 2 1 (nzw (CJ c ≠ []) 3 2 (none)) = none ∧ rv = some (jy (roa l c a1.toNat a2)) ∧ (I' a0 0).toInt = 0 ∧ FK a0 SCR I I') ∨ (∃ k w, nzw (((0 ≤ a1 ∧ a1 < ((2 ^ Lm l : Nat) : Int)) ∧ (1 ≤ (pc a1.toNat : Int) ∧ (pc a1.toNat : Int) ≤ 6) ∧ (0 ≤ a2 ∧ a2 ≤ 1))) 2 1 (nzw (CJ c ≠ []) 3 2 (none)) = some (k, w) ∧ I' = RM (jx_u I a0 0 (Int32.ofInt 0)) a0 k w ∧ ∃ x : Int, rv = some (jy x))) QE := by
  have hW0 := hW.1
  have hW0 := hW.1
  refine wm_275 hV (by omega) (by omega)  (fun J41 hJJ => ?_)
  have hJ41 := hJJ
  have h256 : 2 ^ Lm l ≤ 256 := (Nat.pow_le_pow_right (by omega) hW0.2 : 2 ^ Lm l ≤ 2 ^ 8)
  unfold wz_275
  refine ⟨s_M_0 hM, ?_⟩
  intro I2 e_I2; subst e_I2
  have hX0 := MSX_0 (v := Int32.ofInt 0) hX hW
  have h00 : (jx_u I a0 0 (Int32.ofInt 0) a0 0).toInt = 0 := by rw [jx_u_s]; rfl
  refine ⟨_, cz_250 hV hM hX0.1 hW (by omega), ?_⟩
  rintro _ I5 ⟨rfl, e9⟩; replace e9 := e9.symm; subst e9
  refine ⟨_, rfl, ?_⟩
  refine ⟨by omega, ?_⟩
  refine ⟨fun hq1 => ?_, fun hq1 => ?_⟩
  · have c1 := bi_f hq1
    refine hJ41 _ _ _ ?_
    unfold wz_275_41
    refine ⟨s_M_0 hM, ?_⟩
    refine ⟨_, cz_260b hV hM h00 rfl, ?_⟩
    rintro _ I25 ⟨rfl, e9⟩; replace e9 := e9.symm; subst e9
    refine ⟨_, rfl, ?_⟩
    refine ⟨by omega, ?_⟩
    refine ⟨fun hq2 => ?_, fun hq2 => ?_⟩
    · exact absurd hq2 (by decide)
    · exact Or.inr ⟨_, _, nzw_f (fun k => c1 k.1), rfl, _, rfl⟩
  · have c1 := bi_t hq1
    have hp10 := pc_10 a1.toNat
    refine ⟨_, cz_272 (B := a1.toNat) hV (by omega) (by omega), ?_⟩
    rintro _ I10 ⟨rfl, e9⟩; replace e9 := e9.symm; subst e9
    refine ⟨_, rfl, ?_⟩
    refine ⟨_, cz_203 hV (by omega) (by omega) (by omega), ?_⟩
    rintro _ I14 ⟨rfl, e9⟩; replace e9 := e9.symm; subst e9
    refine ⟨_, rfl, ?_⟩
    refine ⟨by omega, ?_⟩
    refine ⟨fun hq3 => ?_, fun hq3 => ?_⟩
    · have c2 := bi_f hq3
      refine hJ41 _ _ _ ?_
      unfold wz_275_41
      refine ⟨s_M_0 hM, ?_⟩
      refine ⟨_, cz_260b hV hM h00 rfl, ?_⟩
      rintro _ I25 ⟨rfl, e9⟩; replace e9 := e9.symm; subst e9
      refine ⟨_, rfl, ?_⟩
      refine ⟨by omega, ?_⟩
      refine ⟨fun hq4 => ?_, fun hq4 => ?_⟩
      · exact absurd hq4 (by decide)
      · exact Or.inr ⟨_, _, nzw_f (fun k => c2 k.2.1), rfl, _, rfl⟩
    · have c2 := bi_t hq3
      refine ⟨_, cz_203 hV (by omega) (by omega) (by omega), ?_⟩
      rintro _ I19 ⟨rfl, e9⟩; replace e9 := e9.symm; subst e9
      refine ⟨_, rfl, ?_⟩
      refine ⟨by omega, ?_⟩
      refine ⟨fun hq5 => ?_, fun hq5 => ?_⟩
      · have c3 := bi_t hq5
        refine hJ41 _ _ _ ?_
        unfold wz_275_41
        refine ⟨s_M_0 hM, ?_⟩
        refine ⟨_, cz_260o hV hM h00 hX0.2.2.1.1 rfl, ?_⟩
        rintro _ I25 ⟨rfl, hI⟩
        refine ⟨_, rfl, ?_⟩
        refine ⟨by omega, ?_⟩
        refine ⟨fun hq6 => ?_, fun hq6 => ?_⟩
        · have cJ := bi_f hq6
          rw [if_neg cJ] at hI
          subst hI
          have hJ1 := WC_J hC cJ
          have h6 : (bl a1.toNat 8).length ≤ 6 := by
            have h3 : (bl a1.toNat 10).length ≤ 6 := Int.ofNat_le.mp c2.2
            rw [bl_top (B := a1.toNat) (m := 8) (by omega) 10 (by omega)] at h3
            exact h3
          have hX29 : MSX (jx_u (jx_u I a0 0 (Int32.ofInt 0)) a0 53 (Int32.ofInt (-1))) a0 l c := MSX_s hX0 (FK_f FK_refl (by decide)) hW
          have h29 : ((jx_u (jx_u I a0 0 (Int32.ofInt 0)) a0 53 (Int32.ofInt (-1))) a0 53).toInt = -1 := by rw [jx_u_s]; rfl
          have h029 : ((jx_u (jx_u I a0 0 (Int32.ofInt 0)) a0 53 (Int32.ofInt (-1))) a0 0).toInt = 0 := by rw [jx_u_k _ _ _ _ (by omega)]; exact h00
          have hF29 : FK a0 SCR I (jx_u (jx_u I a0 0 (Int32.ofInt 0)) a0 53 (Int32.ofInt (-1))) := FK_f (FK_0) (by decide)
          refine ⟨s_M_0 hM, ?_⟩
          intro I29 e_I29; subst e_I29
          refine ⟨_, by omega, _, cz_274e (B := a1.toNat) hV hM hW hC cJ (by omega) hX29 (by omega) h6 h29 rfl, ?_⟩
          rintro _ I34 ⟨rfl, h53, h54, hF9, hc9⟩
          refine ⟨rfl, ?_⟩
          have hr := QS_rop hW hC cJ (B := a1.toNat) (by omega) ((jx_u (jx_u I a0 0 (Int32.ofInt 0)) a0 53 (Int32.ofInt (-1))) a0 54).toInt
          have hrk := rop_k hW hC cJ h6
          refine ⟨fun hq7 => ?_, fun hq7 => ?_⟩
          · exact Or.inl ⟨by rw [nzw_t ⟨c1, c2, c3⟩, nzw_t cJ], by unfold roa; rw [h53, hr.1]; split <;> simp_all, by rw [hF9.2 0 (by decide)]; exact h029, FK_trans hF29 (FK_mono hF9 (by decide))⟩
          · refine ⟨fun hq8 => ?_, fun hq8 => ?_⟩
            · exact Or.inl ⟨by rw [nzw_t ⟨c1, c2, c3⟩, nzw_t cJ], by unfold roa; rw [h54, hr.2 (by omega), if_neg (show ¬ (rop l c a1.toNat).1 = -1 by omega), if_neg (show ¬ a2 = 0 by omega)], by rw [hF9.2 0 (by decide)]; exact h029, FK_trans hF29 (FK_mono hF9 (by decide))⟩
            · exact Or.inl ⟨by rw [nzw_t ⟨c1, c2, c3⟩, nzw_t cJ], by unfold roa; rw [h53, hr.1, if_pos (show (rop l c a1.toNat).1 = -1 by omega)]; congr 2; omega, by rw [hF9.2 0 (by decide)]; exact h029, FK_trans hF29 (FK_mono hF9 (by decide))⟩
        · have cJ := bi_t hq6
          rw [if_pos cJ] at hI
          subst hI
          exact Or.inr ⟨_, _, by rw [nzw_t ⟨c1, c2, c3⟩]; exact nzw_f (fun k => k cJ), rfl, _, rfl⟩
      · have c3 := bi_f hq5
        refine hJ41 _ _ _ ?_
        unfold wz_275_41
        refine ⟨s_M_0 hM, ?_⟩
        refine ⟨_, cz_260b hV hM h00 rfl, ?_⟩
        rintro _ I25 ⟨rfl, e9⟩; replace e9 := e9.symm; subst e9
        refine ⟨_, rfl, ?_⟩
        refine ⟨by omega, ?_⟩
        refine ⟨fun hq9 => ?_, fun hq9 => ?_⟩
        · exact absurd hq9 (by decide)
        · exact Or.inr ⟨_, _, nzw_f (fun k => c3 k.2.2), rfl, _, rfl⟩
