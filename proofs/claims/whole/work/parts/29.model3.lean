/-! ===== the reference: begins, rows tried, journeys gone ===== -/
/-- of the reference only what is tried changes, and the fields ks -/
def FK (m : Nat) (ks : List Nat) (I I' : jx_I) : Prop := (∀ q, q ≠ m → q ≠ m + 1286 → (q < m + 1346 ∨ m + 1371 ≤ q) → I' q = I q) ∧ ∀ k, k ∉ ks → I' m k = I m k
theorem FK_refl {m : Nat} {ks : List Nat} {I : jx_I} : FK m ks I I := ⟨fun _ _ _ _ => rfl, fun _ _ => rfl⟩
theorem FK_trans {m : Nat} {ks : List Nat} {I I' I2 : jx_I} (h : FK m ks I I') (h2 : FK m ks I' I2) : FK m ks I I2 := ⟨fun q a b c => (h2.1 q a b c).trans (h.1 q a b c), fun k hk => (h2.2 k hk).trans (h.2 k hk)⟩
theorem FK_mono {m : Nat} {ks ks2 : List Nat} {I I' : jx_I} (h : FK m ks I I') (hs : ∀ k ∈ ks, k ∈ ks2) : FK m ks2 I I' := ⟨h.1, fun k hk => h.2 k (fun h2 => hk (hs k h2))⟩
theorem FK_c {m : Nat} {ks : List Nat} {I I' : jx_I} (h : FC m I I') : FK m ks I I' := ⟨fun q a b c => h q b (by omega), fun k _ => by rw [h m (by omega) (by omega)]⟩
theorem FK_fr {m lo hi : Nat} {ks : List Nat} {I I' : jx_I} (h : FR lo hi I I') (h1 : (m + 1286 ≤ lo ∧ hi ≤ m + 1287) ∨ (m + 1346 ≤ lo ∧ hi ≤ m + 1371)) : FK m ks I I' := ⟨fun q a b c => h q (by omega), fun k _ => by rw [h m (by omega)]⟩
theorem FK_f {m k : Nat} {ks : List Nat} {I I' : jx_I} {v : Int32} (h : FK m ks I I') (hk : k ∈ ks) : FK m ks I (jx_u I' m k v) := ⟨fun q a b c => by rw [jx_u_r _ _ _ a]; exact h.1 q a b c, fun j hj => by rw [jx_u_k _ _ _ _ (by intro e; exact hj (e ▸ hk))]; exact h.2 j hj⟩
theorem FK_u {m a k : Nat} {ks : List Nat} {I I' : jx_I} {v : Int32} (h : FK m ks I I') (ha : a = m + 1286 ∨ (m + 1346 ≤ a ∧ a < m + 1371)) : FK m ks I (jx_u I' a k v) := ⟨fun q b c e => by rw [jx_u_r _ _ _ (by omega)]; exact h.1 q b c e, fun j hj => by rw [jx_u_a _ _ _ _ (by omega)]; exact h.2 j hj⟩
theorem FK_MD {m : Nat} {ks : List Nat} {I I' : jx_I} {l : LT} (h : MD I m l) (hf : FK m ks I I') (hk : 23 ∉ ks) (hW : WT l) : MD I' m l := MD_of h (hf.2 23 hk) (fun q h1 h2 => hf.1 q (by omega) (by omega) (by omega)) hW
theorem FK_ML {m k a : Nat} {ks : List Nat} {I I' : jx_I} {L : List Nat} (h : ML I m k a L) (hf : FK m ks I I') (hk : k ∉ ks) (h1 : a ≠ m) (h2 : a ≠ m + 1286) (h3 : a < m + 1346 ∨ m + 1371 ≤ a) : ML I' m k a L := ML_of h (hf.2 k hk) (hf.1 a h1 h2 h3)
theorem FK_MH {m x n c : Nat} {ks : List Nat} {I I' : jx_I} {g : GT} (h : MH I x n c g) (hf : FK m ks I I') (h1 : ∀ j, j < c → x + j ≠ m ∧ x + j ≠ m + 1286 ∧ (x + j < m + 1346 ∨ m + 1371 ≤ x + j)) : MH I' x n c g := MH_of h (fun j hj => hf.1 _ (h1 j hj).1 (h1 j hj).2.1 (h1 j hj).2.2)
/-- griefs, depths, the row, as the reference keeps them -/
def MB (I : jx_I) (m : Nat) (l : LT) (L : List Nat) (g d : GT) : Prop := ML I m 36 (m + 1344) L ∧ MH I (m + 1288) (Ln l) (Lm l) g ∧ MH I (m + 1297) (Ln l) (Lm l) d
theorem FK_MB {m : Nat} {ks : List Nat} {I I' : jx_I} {l : LT} {L : List Nat} {g d : GT} (h : MB I m l L g d) (hf : FK m ks I I') (hk : 36 ∉ ks) (hW : WT l) : MB I' m l L g d := by
  have hn := hW.1
  exact ⟨FK_ML h.1 hf hk (by omega) (by omega) (by omega), FK_MH h.2.1 hf (fun j hj => by omega), FK_MH h.2.2 hf (fun j hj => by omega)⟩
/-- GrievingCamelsModel.begins -/
theorem cz_243 {V : jx_V} (hV : V.1.stackTraces = false) {X : jx_X} {R : jx_R} {I : jx_I} {a0 : Nat} {l : LT} {L : List Nat} {g d : GT}
    (hM : MX X R a0) (hD : MD I a0 l) (hW : WT l) (hB : MB I a0 l L g d) (hG : GDn (Ln l) (Lm l) g d) (hLm : ∀ c ∈ L, c < Lm l) (hL8 : L.length ≤ 8)
    {QE : String → jx_I → Prop} : jc V 1 243 (0, 0) [.ref a0] X I R (fun rv I' => rv = none ∧ MN I' a0 l L g d ∧ FK a0 [46] I I') QE := by
  have hW0 := hW.1
  refine wm_243 hV   (fun J2 J14 J78 hJJ => ?_)
  obtain ⟨hJ2, hJ14, hJ78⟩ := hJJ
  have hn := hW.1
  have hm := hB.1.1
  unfold wz_243
  have L2 : ∀ (n2 : Nat) (l1 : Int) (K : jx_I), n2 = ((Lm l : Int) - l1).toNat → (∃ i : Nat, l1 = i ∧ i ≤ Lm l ∧ MH K (a0 + 1347) (Ln l) i g ∧ MH K (a0 + 1356) (Ln l) i d ∧ FR (a0 + 1347) (a0 + 1364) I K) → J2 l1 K := by
    intro n2
    induction n2 using Nat.strongRecOn with
    | ind n2 ih2 =>
    intro l1 K hn2 hI2
    obtain ⟨i, rfl, hi, hg, hd, hF⟩ := hI2
    have h4 : (K (a0 + 4) 1).toInt = Lm l := by rw [hF (a0 + 4) (by omega)]; exact hD.1.2
    refine hJ2 _ _ ?_
    unfold wz_243_2
    refine ⟨s_M_0 hM, _, r_M_11 hM, _, ⟨s_M_4 hM, by decide⟩, ?_⟩
    try simp only [show (1 : Int).toNat = 1 from rfl, h4]
    refine ⟨by omega, by omega, ?_⟩
    refine ⟨fun hq1 => ?_, fun hq1 => ?_⟩
    · intro I8 e_I8; subst e_I8
      have L78 : ∀ (n78 : Nat) (l1 : Int) (K3 : jx_I), n78 = ((L.length : Int) - l1).toNat → (∃ i : Nat, l1 = i ∧ i ≤ L.length ∧ (∀ k, k < i → K3 (a0 + 1364) k = I (a0 + 1344) k) ∧ (K3 a0 46).toInt = L.length ∧ MH K3 (a0 + 1347) (Ln l) (Lm l) g ∧ MH K3 (a0 + 1356) (Ln l) (Lm l) d ∧ FK a0 [46] I K3) → J78 l1 K3 := by
        intro n78
        induction n78 using Nat.strongRecOn with
        | ind n78 ih78 =>
        intro l1 K3 hn78 hI78
        obtain ⟨i, rfl, hi, hr, hm46, hg, hd, hF⟩ := hI78
        have hm2 : (K3 a0 36).toInt = L.length := by rw [hF.2 36 (by decide)]; exact hm
        refine hJ78 _ _ ?_
        unfold wz_243_78
        refine ⟨s_M_0 hM, by omega, ?_⟩
        refine ⟨fun hq2 => ?_, fun hq2 => ?_⟩
        · exact ⟨rfl, ⟨⟨hm46, fun k x hk => by
            have h9 := (List.getElem?_eq_some_iff.mp hk).1
            rw [hr k (by omega)]; exact hB.1.2 k x hk⟩, hg, hd⟩, hF⟩
        · refine ⟨_, r_M_44 hM, _, r_M_34 hM, _, ⟨s_M_1344 hM, by decide⟩, by omega, _, ⟨s_M_1364 hM, by decide⟩, by omega, ?_⟩
          intro I70 e_I70; subst e_I70
          exact ih78 _ (by omega) _ _ rfl (⟨i + 1, by omega, by omega, fun k hk => by
            rcases Nat.lt_or_ge k i with h | h
            · rw [jx_u_k _ _ _ _ (by omega)]; exact hr k h
            · rw [show k = i by omega, Int.toNat_natCast, jx_u_s, Int32.ofInt_toInt, hF.1 (a0 + 1344) (by omega) (by omega) (by omega)], by rw [jx_u_a _ _ _ _ (by omega)]; exact hm46, MH_of hg (fun c hc => jx_u_r _ _ _ (by omega)), MH_of hd (fun c hc => jx_u_r _ _ _ (by omega)), FK_u hF (by omega)⟩)
      exact L78 _ _ _ rfl (⟨0, rfl, by omega, fun k hk => by omega, by rw [jx_u_s, hF a0 (by omega), Int32.ofInt_toInt]; exact hm, MH_of (by rw [show Lm l = i by omega]; exact hg) (fun c hc => jx_u_r _ _ _ (by omega)), MH_of (by rw [show Lm l = i by omega]; exact hd) (fun c hc => jx_u_r _ _ _ (by omega)), FK_f (FK_fr hF (by omega)) (by decide)⟩)
    · have hii : i < Lm l := by omega
      have L14 : ∀ (n14 : Nat) (l1 : Int) (l2 : Int) (K2 : jx_I), n14 = ((Ln l : Int) - l2).toNat → (∃ p : Nat, l1 = (i : Int) ∧ l2 = p ∧ i < Lm l ∧ p ≤ Ln l ∧ MH K2 (a0 + 1347) (Ln l) i g ∧ MH K2 (a0 + 1356) (Ln l) i d ∧ MH K2 (a0 + 1347 + i) p 1 (fun q _ => g q i) ∧ MH K2 (a0 + 1356 + i) p 1 (fun q _ => d q i) ∧ FR (a0 + 1347) (a0 + 1364) I K2) → J14 l1 l2 K2 := by
        intro n14
        induction n14 using Nat.strongRecOn with
        | ind n14 ih14 =>
        intro l1 l2 K2 hn14 hI14
        obtain ⟨p, rfl, rfl, hi, hp, hg, hd, hg1, hd1, hF⟩ := hI14
        have h4 : (K2 (a0 + 4) 0).toInt = Ln l := by rw [hF (a0 + 4) (by omega)]; exact hD.1.1
        refine hJ14 _ _ _ ?_
        unfold wz_243_14
        refine ⟨s_M_0 hM, _, r_M_11 hM, _, ⟨s_M_4 hM, by decide⟩, ?_⟩
        try simp only [Int.toNat_zero, h4]
        refine ⟨by omega, by omega, ?_⟩
        refine ⟨fun hq3 => ?_, fun hq3 => ?_⟩
        · exact ih2 _ (by omega) _ _ rfl (⟨i + 1, by omega, by omega, fun q c hq hc => by
            rcases Nat.lt_or_ge c i with h | h
            · exact hg q c hq h
            · have := hg1 q 0 (by omega) (by omega); rw [show c = i by omega]; simpa using this, fun q c hq hc => by
            rcases Nat.lt_or_ge c i with h | h
            · exact hd q c hq h
            · have := hd1 q 0 (by omega) (by omega); rw [show c = i by omega]; simpa using this, hF⟩)
        · have hgv : (K2 (a0 + 1288 + i) p).toInt = g p i := by rw [hF (a0 + 1288 + i) (by omega)]; exact hB.2.1 p i (by omega) hi
          have hdv : (K2 (a0 + 1297 + i) p).toInt = d p i := by rw [hF (a0 + 1297 + i) (by omega)]; exact hB.2.2 p i (by omega) hi
          have hgr := hG p i (by omega) hi
          refine ⟨_, r_M_42 hM, _, ⟨s_M_1346 hM, by decide⟩, by omega, _, rr_M_1346 hM (by omega), _, r_M_29 hM, _, ⟨s_M_1287 hM, by decide⟩, by omega, _, rr_M_1287 hM (by omega), _, ⟨sr_M_1287 hM (by omega), by decide⟩, ?_⟩
          try simp only [Int.toNat_natCast, hgv]
          refine ⟨by omega, _, ⟨sr_M_1346 hM (by omega), by decide⟩, ?_⟩
          try simp only [Int.toNat_natCast]
          refine ⟨by omega, ?_⟩
          intro I36 e_I36; subst e_I36
          refine ⟨_, r_M_43 hM, _, ⟨s_M_1355 hM, by decide⟩, by omega, _, rr_M_1355 hM (by omega), _, r_M_30 hM, _, ⟨s_M_1296 hM, by decide⟩, by omega, _, rr_M_1296 hM (by omega), _, ⟨sr_M_1296 hM (by omega), by decide⟩, ?_⟩
          have e9 : (jx_u K2 (a0 + 1347 + i) p (Int32.ofInt (g p i)) (a0 + 1297 + i) p).toInt = d p i := by rw [jx_u_a _ _ _ _ (by omega), hdv]
          try simp only [Int.toNat_natCast, e9]
          refine ⟨by omega, _, ⟨sr_M_1355 hM (by omega), by decide⟩, ?_⟩
          try simp only [Int.toNat_natCast]
          refine ⟨by omega, ?_⟩
          intro I57 e_I57; subst e_I57
          exact ih14 _ (by omega) _ _ _ rfl (⟨p + 1, rfl, by omega, hi, by omega, MH_of hg (fun c hc => by rw [jx_u_r _ _ _ (by omega), jx_u_r _ _ _ (by omega)]), MH_of hd (fun c hc => by rw [jx_u_r _ _ _ (by omega), jx_u_r _ _ _ (by omega)]), fun q c hq hc => by
            have hc0 : c = 0 := by omega
            subst hc0
            rw [jx_u_a _ _ _ _ (by omega)]
            rcases Nat.lt_or_ge q p with h | h
            · rw [jx_u_k _ _ _ _ (by omega)]; exact hg1 q 0 h (by omega)
            · rw [show a0 + 1347 + i + 0 = a0 + 1347 + i from rfl, show q = p by omega, jx_u_s]; exact jy_toInt (by omega), fun q c hq hc => by
            have hc0 : c = 0 := by omega
            subst hc0
            rcases Nat.lt_or_ge q p with h | h
            · rw [jx_u_k _ _ _ _ (by omega), jx_u_a _ _ _ _ (by omega)]; exact hd1 q 0 h (by omega)
            · rw [show a0 + 1356 + i + 0 = a0 + 1356 + i from rfl, show q = p by omega, jx_u_s]; exact jy_toInt (by omega), FR_u (FR_u hF (by omega) (by omega)) (by omega) (by omega)⟩)
      exact L14 _ _ _ _ rfl (⟨0, rfl, rfl, by omega, by omega, hg, hd, fun q c hq hc => by omega, fun q c hq hc => by omega, hF⟩)
  exact L2 _ _ _ rfl (⟨0, rfl, by omega, fun p c _ hc => by omega, fun p c _ hc => by omega, FR_refl⟩)
/-- GrievingCamelsModel.rowOf -/
theorem cz_244 {V : jx_V} (hV : V.1.stackTraces = false) {X : jx_X} {R : jx_R} {I : jx_I} {a0 : Nat} {a1 : Int} {l : LT} {L : List Nat} {g d : GT} {B : Nat}
    (hM : MX X R a0) (hD : MD I a0 l) (hW : WT l) (hN : MN I a0 l L g d) (h1 : a1 = (B : Int)) (hB : B < 2147483648)
    {QE : String → jx_I → Prop} : jc V 1 244 (0, 0) [.ref a0, jy a1] X I R (fun rv I' => rv = none ∧ MN I' a0 l (bl B (Lm l)) g d ∧ FK a0 [46] I I') QE := by
  have hW0 := hW.1
  refine wm_244 hV (by omega)  (fun J7 J48 hJJ => ?_)
  obtain ⟨hJ7, hJ48⟩ := hJJ
  have hn := hW.1
  unfold wz_244
  refine ⟨s_M_0 hM, ?_⟩
  intro I2 e_I2; subst e_I2
  have L7 : ∀ (n7 : Nat) (l2 : Int) (K : jx_I), n7 = ((Lm l : Int) - l2).toNat → (∃ i : Nat, l2 = i ∧ i ≤ Lm l ∧ ML K a0 46 (a0 + 1364) (bl B i) ∧ (∀ q, q ≠ a0 → q ≠ a0 + 1364 → K q = I q) ∧ FK a0 [46] I K) → J7 l2 K := by
    intro n7
    induction n7 using Nat.strongRecOn with
    | ind n7 ih7 =>
    intro l2 K hn7 hI7
    obtain ⟨i, rfl, hi, hK, hq9, hF⟩ := hI7
    have h4 : (K (a0 + 4) 1).toInt = Lm l := by rw [hq9 (a0 + 4) (by omega) (by omega)]; exact hD.1.2
    have hbl := bl_len B i
    have hm := hK.1
    refine hJ7 _ _ ?_
    unfold wz_244_7
    refine ⟨s_M_0 hM, _, r_M_11 hM, _, ⟨s_M_4 hM, by decide⟩, ?_⟩
    try simp only [show (1 : Int).toNat = 1 from rfl, h4]
    refine ⟨by omega, by omega, ?_⟩
    refine ⟨fun hq1 => ?_, fun hq1 => ?_⟩
    · rw [show i = Lm l by omega] at hK
      exact ⟨by trivial, ⟨hK, MH_of hN.2.1 (fun c hc => hq9 _ (by omega) (by omega)), MH_of hN.2.2 (fun c hc => hq9 _ (by omega) (by omega))⟩, hF⟩
    · have hbit := jz_bit (B := B) (k := i) hB (by omega)
      simp only [h1, hbit]
      refine ⟨fun hq2 => ?_, fun hq2 => ?_⟩
      · refine ⟨_, r_M_44 hM, _, ⟨s_M_1364 hM, by decide⟩, by omega, ?_⟩
        intro I15 e_I15; subst e_I15
        intro I16 e_I16; subst e_I16
        refine hJ48 _ _ ?_
        unfold wz_244_48
        exact ih7 _ (by omega) _ _ rfl (⟨i + 1, by omega, by omega, by
          have h01 := bN_01 B i
          rw [bl_1 (by omega)]
          refine ML_put hK ?_ ?_ ?_
          · rw [jx_u_s, jx_u_a _ _ _ _ (by omega), hm]; rw [jy_toInt (by omega)]; omega
          · rw [jx_u_a _ _ _ _ (by omega), hm, Int.toNat_natCast, jx_u_s]; exact jy_toInt (by omega)
          · intro k hk; rw [jx_u_a _ _ _ _ (by omega), hm, Int.toNat_natCast, jx_u_k _ _ _ _ (by omega)], fun q h1 h2 => by rw [jx_u_r _ _ _ h1, jx_u_r _ _ _ h2]; exact hq9 q h1 h2, FK_f (FK_u hF (by omega)) (by decide)⟩)
      · refine hJ48 _ _ ?_
        unfold wz_244_48
        exact ih7 _ (by omega) _ _ rfl (⟨i + 1, by omega, by omega, by rw [bl_0 (by omega)]; exact hK, hq9, hF⟩)
  exact L7 _ _ _ rfl (⟨0, rfl, by omega, ⟨by rw [jx_u_s]; rfl, fun k x hk => by cases hk⟩, fun q h1 h2 => jx_u_r _ _ _ h1, FK_f FK_refl (by decide)⟩)
theorem GDn_j {l : LT} {J L : List Nat} {g d : GT} (h : GDn (Ln l) (Lm l) g d) (hJ : ∀ c ∈ J, c < Ln l) (hL : ∀ c ∈ L, c < Lm l) : ∀ k, k < J.length ∨ k = 0 → GDn (Ln l) (Lm l) (jst l J L g d k).1 (jst l J L g d k).2
  | 0, _ => h
  | k + 1, hk => by
    have h1 := GDn_j (l := l) h hJ hL k (by omega)
    refine GDn_c h1 (hJ _ ?_) hL
    rw [List.getD_eq_getElem?_getD, List.getElem?_eq_getElem (by omega)]
    exact List.getElem_mem _
/-- GrievingCamelsModel.goes -/
theorem cz_258 {V : jx_V} (hV : V.1.stackTraces = false) {X : jx_X} {R : jx_R} {I : jx_I} {a0 : Nat} {l : LT} {L : List Nat} {g d : GT} {J : List Nat}
    (hM : MX X R a0) (hD : MD I a0 l) (hW : WT l) (hN : MN I a0 l L g d) (hG : GDn (Ln l) (Lm l) g d) (hLm : ∀ c ∈ L, c < Lm l) (hL8 : L.length ≤ 8) (hnd : L.Nodup) (hJ : ML I a0 37 (a0 + 1345) J) (hJn : ∀ c ∈ J, c < Ln l) (hJ12 : J.length ≤ 12)
    {QE : String → jx_I → Prop} : jc V 5 258 (0, 0) [.ref a0] X I R (fun rv I' => rv = some (jy (rs (Lr l) J (J.length - 1) + jhs l J L g d (J.length - 1))) ∧ (I' a0 48).toInt = rs (Lr l) J (J.length - 1) ∧ (I' a0 49).toInt = jhs l J L g d (J.length - 1) ∧ MN I' a0 l L (jst l J L g d (J.length - 1)).1 (jst l J L g d (J.length - 1)).2 ∧ FK a0 [48, 49] I I') QE := by
  have hW0 := hW.1
  refine wm_258 hV   (fun J12 hJJ => ?_)
  have hJ12 := hJJ
  have hn := hW.1
  unfold wz_258
  refine ⟨s_M_0 hM, ?_⟩
  intro I2 e_I2; subst e_I2
  intro I3 e_I3; subst e_I3
  have L12 : ∀ (n12 : Nat) (l1 : Int) (K : jx_I), n12 = ((J.length : Int) - l1).toNat → (∃ i : Nat, l1 = (i + 1 : Nat) ∧ (i < J.length ∨ i = 0) ∧ (K a0 48).toInt = rs (Lr l) J i ∧ (K a0 49).toInt = jhs l J L g d i ∧ MN K a0 l L (jst l J L g d i).1 (jst l J L g d i).2 ∧ FK a0 [48, 49] I K) → J12 l1 K := by
    intro n12
    induction n12 using Nat.strongRecOn with
    | ind n12 ih12 =>
    intro l1 K hn12 hI12
    obtain ⟨i, rfl, hi, h48, h49, hNK, hF⟩ := hI12
    have hJK := FK_ML hJ hF (by decide) (by omega) (by omega) (by omega)
    have hm := hJK.1
    have hDK := FK_MD hD hF (by decide) hW
    have hGi := GDn_j (l := l) hG hJn hLm i hi
    have hrg := jhs_rng l J L g d i
    refine hJ12 _ _ ?_
    unfold wz_258_12
    refine ⟨s_M_0 hM, by omega, ?_⟩
    refine ⟨fun hq1 => ?_, fun hq1 => ?_⟩
    · rw [show J.length - 1 = i by omega]
      exact ⟨by rw [h48, h49], h48, h49, hNK, hF⟩
    · obtain ⟨e1, m1⟩ := ML_gd hJK (i := i) (by omega)
      obtain ⟨e2, m2⟩ := ML_gd hJK (i := i + 1) (by omega)
      have b1 := hJn _ m1
      have b2 := hJn _ m2
      have hrr := (hW.2.2.1 _ _ b1 b2).1
      have hrv := hDK.2.2.1 _ _ b1 b2
      have hrb := rs_rng (r := Lr l) (J := J) (b := 24) (fun k hk => by
        obtain ⟨e1, m1⟩ := ML_gd hJK (i := k) (by omega)
        obtain ⟨e2, m2⟩ := ML_gd hJK (i := k + 1) (by omega)
        exact (hW.2.2.1 _ _ (hJn _ m1) (hJn _ m2)).1) i (by omega)
      have hht := hlt_rng (Lc l) (L.map ((jst l J L g d i).1 (J.getD (i + 1) 0))) (nd (Lk l (J.getD (i + 1) 0)))
      refine ⟨_, r_M_21 hM, _, r_M_35 hM, _, ⟨s_M_1345 hM, by decide⟩, ?_⟩
      try simp only [show (((i + 1 : Nat) : Int) - 1).toNat = i by omega, show ((i + 1 : Nat) : Int).toNat = i + 1 by omega, e1, e2]
      refine ⟨by omega, _, ⟨s_M_24 hM, by decide⟩, by omega, _, rr_M_24 hM (by omega), by omega, _, ⟨sr_M_24 hM (by omega), by decide⟩, ?_⟩
      try simp only [Int.toNat_natCast, hrv, h48, h49]
      refine ⟨by omega, ?_⟩
      intro I22 e_I22; subst e_I22
      refine ⟨by omega, ?_⟩
      have e22 : (jx_u K a0 48 (Int32.ofInt (rs (Lr l) J i + Lr l (J.getD i 0) (J.getD (i + 1) 0))) (a0 + 1345) (i + 1)).toInt = ((J.getD (i + 1) 0 : Nat) : Int) := by rw [jx_u_a _ _ _ _ (by omega)]; exact e2
      try simp only [e22]
      have F22 : FK a0 [48, 49] K (jx_u K a0 48 (Int32.ofInt (rs (Lr l) J i + Lr l (J.getD i 0) (J.getD (i + 1) 0)))) := FK_f FK_refl (by decide)
      refine ⟨_, cz_255 hV hM (FK_MD hDK F22 (by decide) hW) hW (MN_c hNK hW (by rw [jx_u_k _ _ _ _ (by omega)]) (fun q h1 h2 => jx_u_r _ _ _ (by omega))) hGi hLm hL8 hnd rfl b2, ?_⟩
      rintro _ I26 ⟨rfl, hN2, hF2⟩
      refine ⟨_, rfl, ?_⟩
      have e49 : (jx_u K a0 48 (Int32.ofInt (rs (Lr l) J i + Lr l (J.getD i 0) (J.getD (i + 1) 0))) a0 49).toInt = jhs l J L g d i := by rw [jx_u_k _ _ _ _ (by omega)]; exact h49
      simp only [e49]
      intro I28 e_I28
      exact ih12 _ (by omega) _ _ rfl (⟨i + 1, rfl, by omega, by rw [e_I28, jx_u_k _ _ _ _ (by omega), hF2 a0 (by omega) (by omega), jx_u_s]; exact jy_toInt (by omega), by rw [e_I28, jx_u_s]; exact jy_toInt (by omega), by rw [e_I28]; exact MN_c hN2 hW (by rw [jx_u_k _ _ _ _ (by omega)]) (fun q h1 h2 => jx_u_r _ _ _ (by omega)), by rw [e_I28]; exact FK_f (FK_trans (FK_trans hF F22) (FK_c hF2)) (by decide)⟩)
  exact L12 _ _ _ rfl (⟨0, rfl, Or.inr rfl, by rw [jx_u_k _ _ _ _ (by omega), jx_u_s]; rfl, by rw [jx_u_s]; rfl, MN_c hN hW (by rw [jx_u_k _ _ _ _ (by omega), jx_u_k _ _ _ _ (by omega)]) (fun q h1 h2 => by rw [jx_u_r _ _ _ (by omega), jx_u_r _ _ _ (by omega)]), FK_f (FK_f FK_refl (by decide)) (by decide)⟩)
/-- GrievingCamelsModel.goesTo -/
theorem cz_262 {V : jx_V} (hV : V.1.stackTraces = false) {X : jx_X} {R : jx_R} {I : jx_I} {a0 : Nat} {a1 : Int} {l : LT} {L : List Nat} {g d : GT} {J : List Nat} {k : Nat}
    (hM : MX X R a0) (hD : MD I a0 l) (hW : WT l) (hB : MB I a0 l L g d) (hG : GDn (Ln l) (Lm l) g d) (hLm : ∀ c ∈ L, c < Lm l) (hL8 : L.length ≤ 8) (hnd : L.Nodup) (hJ : ML I a0 37 (a0 + 1345) J) (hJn : ∀ c ∈ J, c < Ln l) (hJ12 : J.length ≤ 12) (h1 : a1 = (k : Int)) (hk : k < J.length)
    {QE : String → jx_I → Prop} : jc V 5 262 (0, 0) [.ref a0, jy a1] X I R (fun rv I' => rv = none ∧ MN I' a0 l L (jst l J L g d (k - 1)).1 (jst l J L g d (k - 1)).2 ∧ FK a0 [46] I I') QE := by
  have hW0 := hW.1
  refine wm_262 hV (by omega)  (fun J6 hJJ => ?_)
  have hJ6 := hJJ
  have hn := hW.1
  unfold wz_262
  refine ⟨s_M_0 hM, ?_⟩
  refine ⟨_, cz_243 hV hM hD hW hB hG hLm hL8, ?_⟩
  rintro _ I4 ⟨rfl, hN0, hF0⟩
  refine ⟨rfl, ?_⟩
  have L6 : ∀ (n6 : Nat) (l2 : Int) (K : jx_I), n6 = ((k : Int) - l2).toNat → (∃ i : Nat, l2 = (i + 1 : Nat) ∧ (i + 1 ≤ k ∨ i = 0) ∧ MN K a0 l L (jst l J L g d i).1 (jst l J L g d i).2 ∧ FK a0 [46] I K) → J6 l2 K := by
    intro n6
    induction n6 using Nat.strongRecOn with
    | ind n6 ih6 =>
    intro l2 K hn6 hI6
    obtain ⟨i, rfl, hi, hNK, hF⟩ := hI6
    have hJK := FK_ML hJ hF (by decide) (by omega) (by omega) (by omega)
    have hDK := FK_MD hD hF (by decide) hW
    have hGi := GDn_j (l := l) hG hJn hLm i (by omega)
    refine hJ6 _ _ ?_
    unfold wz_262_6
    refine ⟨by omega, ?_⟩
    refine ⟨fun hq1 => ?_, fun hq1 => ?_⟩
    · rw [show k - 1 = i by omega]
      exact ⟨rfl, hNK, hF⟩
    · obtain ⟨e2, m2⟩ := ML_gd hJK (i := i + 1) (by omega)
      have b2 := hJn _ m2
      refine ⟨s_M_0 hM, _, r_M_35 hM, _, ⟨s_M_1345 hM, by decide⟩, ?_⟩
      try simp only [show ((i + 1 : Nat) : Int).toNat = i + 1 by omega, e2]
      refine ⟨by omega, ?_⟩
      refine ⟨_, cz_255 hV hM hDK hW hNK hGi hLm hL8 hnd rfl b2, ?_⟩
      rintro _ I15 ⟨rfl, hN2, hF2⟩
      refine ⟨_, rfl, ?_⟩
      exact ih6 _ (by omega) _ _ rfl (⟨i + 1, rfl, by omega, hN2, FK_trans hF (FK_c hF2)⟩)
  exact L6 _ _ _ rfl (⟨0, rfl, Or.inr rfl, hN0, hF0⟩)
/-- GrievingCamelsModel.hoursBy -/
theorem cz_276 {V : jx_V} (hV : V.1.stackTraces = false) {X : jx_X} {R : jx_R} {I : jx_I} {a0 : Nat} {a1 : Int} {l : LT} {L : List Nat} {g d : GT} {J : List Nat} {B : Nat}
    (hM : MX X R a0) (hD : MD I a0 l) (hW : WT l) (hB : MB I a0 l L g d) (hG : GDn (Ln l) (Lm l) g d) (hLm : ∀ c ∈ L, c < Lm l) (hL8 : L.length ≤ 8) (hnd : L.Nodup) (hJ : ML I a0 37 (a0 + 1345) J) (hJn : ∀ c ∈ J, c < Ln l) (hJ12 : J.length ≤ 12) (h1 : a1 = (B : Int)) (hB31 : B < 2147483648)
    {QE : String → jx_I → Prop} : jc V 6 276 (0, 0) [.ref a0, jy a1] X I R (fun rv I' => rv = some (jy (rs (Lr l) J (J.length - 1) + jhs l J (L.filter (fun c => B.testBit c)) g d (J.length - 1))) ∧ FK a0 [46, 48, 49] I I') QE := by
  have hW0 := hW.1
  refine wm_276 hV (by omega)  (fun J11 J60 hJJ => ?_)
  obtain ⟨hJ11, hJ60⟩ := hJJ
  have hn := hW.1
  unfold wz_276
  refine ⟨s_M_0 hM, ?_⟩
  refine ⟨_, cz_243 hV hM hD hW hB hG hLm hL8, ?_⟩
  rintro _ I4 ⟨rfl, hN0, hF0⟩
  refine ⟨rfl, ?_⟩
  intro I6 e_I6; subst e_I6
  have L11 : ∀ (n11 : Nat) (l2 : Int) (K : jx_I), n11 = ((L.length : Int) - l2).toNat → (∃ i : Nat, l2 = i ∧ i ≤ L.length ∧ ML K a0 46 (a0 + 1364) ((L.take i).filter (fun c => B.testBit c)) ∧ (MH K (a0 + 1347) (Ln l) (Lm l) g ∧ MH K (a0 + 1356) (Ln l) (Lm l) d) ∧ FK a0 [46] I K) → J11 l2 K := by
    intro n11
    induction n11 using Nat.strongRecOn with
    | ind n11 ih11 =>
    intro l2 K hn11 hI11
    obtain ⟨i, rfl, hi, hK, hgd, hF⟩ := hI11
    have hBK := FK_MB hB hF (by decide) hW
    have hJK := FK_ML hJ hF (by decide) (by omega) (by omega) (by omega)
    have hDK := FK_MD hD hF (by decide) hW
    have hm := hBK.1.1
    have hm2 := hK.1
    have hle : ((L.take i).filter (fun c => B.testBit c)).length ≤ i := by
      have := List.length_filter_le (fun c => B.testBit c) (L.take i)
      simp at this; omega
    refine hJ11 _ _ ?_
    unfold wz_276_11
    refine ⟨s_M_0 hM, by omega, ?_⟩
    refine ⟨fun hq1 => ?_, fun hq1 => ?_⟩
    · rw [List.take_of_length_le (by omega)] at hK
      have hNK : MN K a0 l (L.filter (fun c => B.testBit c)) g d := ⟨hK, hgd⟩
      refine ⟨_, cz_258 hV hM hDK hW hNK hG (fun c hc => hLm c (List.mem_filter.mp hc).1) (by have := List.length_filter_le (fun c => B.testBit c) L; omega) (hnd.sublist (List.filter_sublist)) hJK hJn hJ12, ?_⟩
      rintro _ I11 ⟨rfl, h48, h49, hN9, hF9⟩
      refine ⟨_, rfl, ?_⟩
      exact ⟨rfl, FK_trans (FK_mono hF (by decide)) (FK_mono hF9 (by decide))⟩
    · obtain ⟨y, hy, hy2⟩ := ML_get hBK.1 (i := i) (by omega)
      have hym : y ∈ L := List.mem_of_getElem? hy
      have hy8 := hLm y hym
      have hbit := jz_bit (B := B) (k := y) hB31 (by omega)
      have h01 := bN_01 B y
      refine ⟨_, r_M_34 hM, _, ⟨s_M_1344 hM, by decide⟩, ?_⟩
      try simp only [Int.toNat_natCast, hy2, h1, hbit]
      refine ⟨by omega, ?_⟩
      refine ⟨fun hq2 => ?_, fun hq2 => ?_⟩
      · have hbf : B.testBit y = true := by rw [bN_t]; simp; omega
        refine ⟨_, r_M_44 hM, by omega, _, ⟨s_M_1364 hM, by decide⟩, by omega, ?_⟩
        intro I24 e_I24; subst e_I24
        intro I25 e_I25; subst e_I25
        refine hJ60 _ _ ?_
        unfold wz_276_60
        exact ih11 _ (by omega) _ _ rfl (⟨i + 1, by omega, by omega, by
          rw [fl_step hy, hbf]
          refine ML_put (x := y) hK ?_ ?_ ?_
          · rw [jx_u_s, jx_u_a _ _ _ _ (by omega), hm2]; rw [jy_toInt (by omega)]; omega
          · rw [jx_u_a _ _ _ _ (by omega), hm2, Int.toNat_natCast, jx_u_s]; exact jy_toInt (by omega)
          · intro k hk; rw [jx_u_a _ _ _ _ (by omega), hm2, Int.toNat_natCast, jx_u_k _ _ _ _ (by omega)], ⟨MH_of hgd.1 (fun c hc => by rw [jx_u_r _ _ _ (by omega), jx_u_r _ _ _ (by omega)]), MH_of hgd.2 (fun c hc => by rw [jx_u_r _ _ _ (by omega), jx_u_r _ _ _ (by omega)])⟩, FK_f (FK_u hF (by omega)) (by decide)⟩)
      · have hbf : B.testBit y = false := by rw [bN_t]; simp; omega
        refine hJ60 _ _ ?_
        unfold wz_276_60
        exact ih11 _ (by omega) _ _ rfl (⟨i + 1, by omega, by omega, by rw [fl_step hy, hbf]; simpa using hK, hgd, hF⟩)
  exact L11 _ _ _ rfl (⟨0, rfl, by omega, ⟨by rw [jx_u_s]; rfl, fun k x hk => by cases hk⟩, ⟨MH_of hN0.2.1 (fun c hc => jx_u_r _ _ _ (by omega)), MH_of hN0.2.2 (fun c hc => jx_u_r _ _ _ (by omega))⟩, FK_f hF0 (by decide)⟩)
/-- GrievingCamelsModel.rowBits -/
theorem cz_277 {V : jx_V} (hV : V.1.stackTraces = false) {X : jx_X} {R : jx_R} {I : jx_I} {a0 : Nat} {L : List Nat}
    (hM : MX X R a0) (hB : ML I a0 36 (a0 + 1344) L) (hL8 : L.length ≤ 8) (hc8 : ∀ c ∈ L, c < 8)
    {QE : String → jx_I → Prop} : jc V 1 277 (0, 0) [.ref a0] X I R (fun rv I' => rv = some (jy (bo L : Nat)) ∧ I' = I) QE := by
  refine wm_277 hV   (fun J4 hJJ => ?_)
  have hJ4 := hJJ
  have hm := hB.1
  unfold wz_277
  have L4 : ∀ (n4 : Nat) (l1 : Int) (l2 : Int) (K : jx_I), n4 = ((L.length : Int) - l2).toNat → (∃ i : Nat, l2 = i ∧ i ≤ L.length ∧ l1 = (bo (L.take i) : Nat) ∧ K = I) → J4 l1 l2 K := by
    intro n4
    induction n4 using Nat.strongRecOn with
    | ind n4 ih4 =>
    intro l1 l2 K hn4 hI4
    obtain ⟨i, rfl, hi, rfl, rfl⟩ := hI4
    refine hJ4 _ _ _ ?_
    unfold wz_277_4
    refine ⟨s_M_0 hM, by omega, ?_⟩
    refine ⟨fun hq1 => ?_, fun hq1 => ?_⟩
    · rw [List.take_of_length_le (by omega)]
      exact ⟨rfl, rfl⟩
    · obtain ⟨y, hy, hy2⟩ := ML_get hB (i := i) (by omega)
      have hy8 := hc8 y (List.mem_of_getElem? hy)
      have hb1 : bo (L.take i) < 2 ^ 8 := bo_lt _ (fun c hc => hc8 c (List.mem_of_mem_take hc))
      have hb2 : 2 ^ y < 2 ^ 8 := Nat.pow_lt_pow_right (by omega) hy8
      have hor := jz_or (a := bo (L.take i)) (b := 2 ^ y) (by omega) (by omega)
      refine ⟨_, r_M_34 hM, _, ⟨s_M_1344 hM, by decide⟩, ?_⟩
      try simp only [Int.toNat_natCast, hy2, jz_1sh (show y < 31 by omega)]
      refine ⟨by omega, ?_⟩
      exact ih4 _ (by omega) _ _ _ rfl (⟨i + 1, by omega, by omega, by rw [hor, ls_last hy, bo_app], rfl⟩)
  exact L4 _ _ _ _ rfl (⟨0, rfl, by omega, by rw [List.take_zero]; rfl, rfl⟩)
