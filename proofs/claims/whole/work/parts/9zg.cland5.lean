/-! ===== land ===== -/
def lnA (y : PX LB) : Int := match y with
  | .ok L => (Lm L.1 : Int)
  | .error e => e.1 - 10
def lnF (y : PX LB) : Int := match y with
  | .ok _ => -1
  | .error e => (e.2 : Int)
/-- the class's two Lands -/
def LDs (R : jx_R) (b ld l2 : Nat) : Prop := R b 12 = some l2 ∧ ((ld = b + 36 ∧ l2 = b + 47) ∨ (ld = b + 47 ∧ l2 = b + 36))
/-- what stands where a land has been told -/
def CT0 (L : LB) : CT := ((L.2, L.2), (List.range (Lm L.1), []), [], [])
theorem WC_0 {L : LB} (hW : WB L) : WC L.1 (CT0 L) := ⟨fun p c _ _ => ⟨(hW.2.2.2.2.2.2 p c).1, (hW.2.2.2.2.2.2 p c).1⟩, ⟨List.nodup_range, fun x hx => List.mem_range.mp hx⟩, Or.inl rfl, fun e h => (by cases h), fun e h => (by cases h)⟩
def LNC (X : jx_X) (R R' : jx_R) (I I' : jx_I) (b ld l2 y : Nat) : PX LB → Prop
  | .ok L => GX X R' I' b l2 L.1 (CT0 L) ∧ R' = jx_u (jx_u R b 11 (some l2)) b 12 (some ld) ∧ ((I' b 15).toInt = 0 ∧ (I' (b + 89) 6).toInt = 1 ∧ (I' y 11).toInt = 0 ∧ (I' y 12).toInt = 0) ∧ (∀ q, q ≠ b → q ≠ b + 1 → q ≠ b + 89 → q ≠ y → (q < b + 4 ∨ b + 16 ≤ q) → (q < l2 ∨ l2 + 9 ≤ q) → I' q = I q) ∧ (∀ k, k ≠ 15 → I' b k = I b k) ∧ ∀ k, k ≠ 6 → I' (b + 89) k = I (b + 89) k
  | .error _ => R' = R ∧ ∀ q, q ≠ b + 1 → (q < l2 ∨ l2 + 9 ≤ q) → I' q = I q
/-- GrievingCamels.land -/
theorem cz_136 {V : jx_V} (hV : V.1.stackTraces = false) {X : jx_X} {R : jx_R} {I : jx_I} {a0 : Nat} {a1 : Int} {ld : Nat} {l : LT} {c : CT} {B : List Int} {l2 y : Nat}
    (h : GX X R I a0 ld l c) (hB : TPB I a0 B) (hls : LDs R a0 ld l2) (hys : R a0 13 = some y ∧ (y = a0 + 58 ∨ y = a0 + 70)) (r_a1 : -2147483648 ≤ a1 ∧ a1 < 2147483648)
    : jd V 203 136 (1, 6) [.ref a0, jy a1] X I R (fun rv I' R' => nz (0 ≤ a1 ∧ a1 ≤ (B.length : Int)) 2 none = none ∧ rv = some (jy (lnA (lno B a1.toNat))) ∧ (I' (a0 + 1) 8).toInt = lnF (lno B a1.toNat) ∧ (I' (a0 + 1) 1).toInt = 0 ∧ LNC X R R' I I' a0 ld l2 y (lno B a1.toNat)) (fun E I' R' => ∃ k, nz (0 ≤ a1 ∧ a1 ≤ (B.length : Int)) 2 none = some k ∧ E = (jx_exe k).1 ∧ I' = rfs I a0 k ∧ R' = R) := by
  have hW := h.2.2.2.1
  have hW0 := hW.1
  refine wm_136 hV (by omega)  (fun J21 hJJ => ?_)
  have hJ21 := hJJ
  have hl := GX_l h
  have hD := h.2.2.1; have hS := h.2.2.2.2.1; have hC := h.2.2.2.2.2.1; have hlo := h.2.1.2
  have hyy := hys.2
  have hll := hls.2
  have hyP : BX X R y TPlan := by rcases hyy with e | e; rw [e]; exact b_GC_58 h.1; rw [e]; exact b_GC_70 h.1
  have hl2 : BX X R l2 TLand := by rcases hll with ⟨_, e⟩ | ⟨_, e⟩; rw [e]; exact b_GC_47 h.1; rw [e]; exact b_GC_36 h.1
  have hTP := b_GC_1 h.1
  obtain ⟨hB1, hB6, hBb⟩ := hB
  obtain ⟨T, hTd⟩ : ∃ T, T = B.take a1.toNat := ⟨_, rfl⟩
  have hlno : lno B a1.toNat = cCl T 61 0 L00 (skB T 0) := by unfold lno; rw [← hTd]
  unfold wz_136
  refine ⟨fun hq1 => ?_, fun hq1 => ?_⟩
  · refine hJ21 _ _ _ _ ?_
    unfold wz_136_21
    refine ⟨s_GC_0 h.1, ?_⟩
    refine ⟨_, _, cz_189 hV h.1 (by omega), fun Ex Ix h9 => ⟨2, by rw [nz_f (by omega)], h9.1, h9.2.1, rfl⟩, ?_⟩
    rintro _ I10 ⟨rfl, e9, hp⟩; replace e9 := e9.symm; subst e9
    exact absurd rfl hp
  · refine ⟨s_GC_0 h.1, _, r_GC_0_0 h.1, ?_⟩
    try simp only [-eq_self, hB1]
    refine ⟨s_Tape_0 (b_GC_1 h.1), ?_⟩
    try simp only [-eq_self, hB1]
    refine ⟨fun hq2 => ?_, fun hq2 => ?_⟩
    · refine hJ21 _ _ _ _ ?_
      unfold wz_136_21
      refine ⟨s_GC_0 h.1, ?_⟩
      refine ⟨_, _, cz_189 hV h.1 (by omega), fun Ex Ix h9 => ⟨2, by rw [nz_f (by omega)], h9.1, h9.2.1, rfl⟩, ?_⟩
      rintro _ I10 ⟨rfl, e9, hp⟩; replace e9 := e9.symm; subst e9
      exact absurd rfl hp
    · have hTl : (T.length : Int) = a1 := by rw [hTd, List.length_take]; omega
      have hbT : ∀ (k : Nat) (x : Int), T[k]? = some x → (I (a0 + 1 + 1) k).toInt = x := by
        intro k x h
        rw [hTd, List.getElem?_take] at h
        split at h
        · exact hBb k x h
        · cases h
      have hnz : nz (0 ≤ a1 ∧ a1 ≤ (B.length : Int)) 2 none = none := nz_t ⟨by omega, by omega⟩
      refine hJ21 _ _ _ _ ?_
      unfold wz_136_21
      refine ⟨s_GC_0 h.1, ?_⟩
      refine ⟨_, _, cz_189 hV h.1 (by omega), fun Ex Ix h9 => absurd h9.2.2 (by decide), ?_⟩
      rintro _ I10 ⟨rfl, e9, hp⟩; replace e9 := e9.symm; subst e9
      refine ⟨rfl, ?_⟩
      refine ⟨s_GC_0 h.1, _, r_GC_0_0 h.1, s_Tape_0 (b_GC_1 h.1), ?_⟩
      refine ⟨_, cz_104 (T := T) hV hTP hB1 hTl (by omega) (by omega) hbT, ?_⟩
      rintro _ I18 ⟨rfl, hT18, hF18⟩
      refine ⟨rfl, ?_⟩
      refine ⟨_, hls.1, s_Land_0 hl2, ?_⟩
      refine ⟨_, cz_23 hV hl2 hTP ⟨(AT_s (Nat.zero_le _)).1, _, _, _, hT18⟩ (by omega) (by omega), ?_⟩
      rintro _ I25 ⟨⟨r259, rfl, ho25⟩, hF25⟩
      refine ⟨_, rfl, ?_⟩
      refine ⟨_, cz_105 hV hTP, ?_⟩
      rintro _ I29 ⟨rfl, e29⟩
      refine ⟨rfl, ?_⟩
      refine ⟨by omega, ?_⟩
      refine ⟨fun hq3 => ?_, fun hq3 => ?_⟩
      · obtain ⟨_, L, p, hY, hcp, hCL⟩ := ho25.resolve_right (fun k => hq3 k.1)
        obtain ⟨_, wf9, we9, nf9, hT9⟩ := hcp
        rw [← hlno] at hY
        have hWB : WB L := lno_WB (by rw [← hTd]; omega) hY
        have hC29 : CLB I29 l2 L := CLB_of hCL (fun q a b => by rw [e29, jx_u_r _ _ _ (by omega)])
        have hRF : RF a0 [11, 12] R (jx_u (jx_u R a0 11 (some l2)) a0 12 (some ld)) := fun q k hk => by
          have h3 : ¬ (q = a0 ∧ k = 11) := fun e => hk ⟨e.1, by rw [e.2]; decide⟩
          have h4 : ¬ (q = a0 ∧ k = 12) := fun e => hk ⟨e.1, by rw [e.2]; decide⟩
          exact (if_neg h4).trans (if_neg h3)
        have hBX : BX X (jx_u (jx_u R a0 11 (some l2)) a0 12 (some ld)) a0 TGC := BX_rx h.1 hRF (fun k en hk e => by
          have hk0 : k = 0 := by omega
          subst hk0
          have h5 : en = ((11, 0), [(0, 1), (1, 3), (2, 4), (3, 16), (4, 17), (5, 82), (6, 24), (7, 89), (8, 28), (9, 30), (10, 32)]) := (Option.some.inj hk).symm
          rw [h5]; decide)
        have hl2R : BX X (jx_u (jx_u R a0 11 (some l2)) a0 12 (some ld)) l2 TLand := BX_ro hl2 hRF (by have : TLand.length = 11 := rfl; omega)
        have hyR : BX X (jx_u (jx_u R a0 11 (some l2)) a0 12 (some ld)) y TPlan := BX_ro hyP hRF (by have : TPlan.length = 12 := rfl; omega)
        refine ⟨_, h.2.1.1, ?_⟩
        intro R34 e_R34; subst e_R34
        intro R35 e_R35; subst e_R35
        refine ⟨_, (by rw [jx_u_k _ _ _ _ (by omega), jx_u_k _ _ _ _ (by omega)]; exact r_GC_0_2 h.1), _, (by rw [jx_u_k _ _ _ _ (by omega), jx_u_s]), s_State_0 (b_GC_4 h.1), ?_⟩
        refine ⟨_, cz_96 (g := L.2) hV (b_GC_4 hBX) hl2R (CLB_LD hC29 hWB) hWB.1.2 hC29.2.2.2.2.2.1 (by omega), ?_⟩
        rintro _ I43 ⟨rfl, hS43, hF43⟩
        refine ⟨rfl, ?_⟩
        refine ⟨_, (by rw [jx_u_k _ _ _ _ (by omega), jx_u_k _ _ _ _ (by omega)]; exact hys.1), s_Plan_0 hyP, ?_⟩
        refine ⟨_, cz_55 hV hyR, ?_⟩
        rintro _ I50 ⟨rfl, e50⟩
        refine ⟨rfl, ?_⟩
        intro I52 e_I52
        refine ⟨_, (by rw [jx_u_k _ _ _ _ (by omega), jx_u_k _ _ _ _ (by omega)]; exact r_GC_0_7 h.1), s_Explainer_0 (b_GC_89 h.1), ?_⟩
        intro I56 e_I56
        refine ⟨s_Land_0 hl2, ?_⟩
        have hq56 : ∀ q, q ≠ a0 → q ≠ a0 + 89 → q ≠ y → I56 q = I43 q := fun q h1 h2 h3 => by rw [e_I56, jx_u_r _ _ _ h2, e_I52, jx_u_r _ _ _ h1, e50, jx_u_r _ _ _ h3, jx_u_r _ _ _ h3]
        have hq29 : ∀ q, q ≠ a0 + 1 → (q < l2 ∨ l2 + 9 ≤ q) → I29 q = I q := fun q h1 h2 => by rw [e29, jx_u_r _ _ _ h1, hF25 q h1 h2]; exact hF18 q (by omega)
        have hCL56 : CLB I56 l2 L := CLB_of hC29 (fun q g1 g2 => by rw [hq56 q (by omega) (by omega) (by omega)]; exact hF43 q (by omega))
        have hS56 : SX I56 (a0 + 4) (CT0 L) := by
          refine SX_of hS43 (fun q g1 g2 => hq56 q (by omega) (by omega) (by omega))
        have hall : ∀ q, q ≠ a0 → q ≠ a0 + 1 → q ≠ a0 + 89 → q ≠ y → (q < a0 + 4 ∨ a0 + 16 ≤ q) → (q < l2 ∨ l2 + 9 ≤ q) → I56 q = I q := fun q h1 h2 h3 h4 h5 h6 => by rw [hq56 q h1 h3 h4, hF43 q (by omega)]; exact hq29 q h2 h6
        refine ⟨hnz, ?_, ?_, ?_, ?_⟩
        · rw [hY, hCL56.1.2]; rfl
        · rw [hY, hq56 _ (by omega) (by omega) (by omega), hF43 _ (by omega), e29, jx_u_k _ _ _ _ (by decide)]; exact hT9.1.2.2.2.2.2.2.2
        · rw [hq56 _ (by omega) (by omega) (by omega), hF43 _ (by omega), e29, jx_u_s]; rfl
        · rw [hY]
          refine ⟨⟨hBX, ⟨by rw [jx_u_k _ _ _ _ (by omega), jx_u_s], by omega⟩, CLB_LD hCL56 hWB, WB_WT hWB, hS56, WC_0 hWB, by rw [hall _ (by omega) (by omega) (by omega) (by omega) (by omega) (by omega)]; exact h.2.2.2.2.2.2⟩, rfl, ⟨?_, ?_, ?_, ?_⟩, hall, fun k hk => ?_, fun k hk => ?_⟩
          · rw [e_I56, jx_u_r _ _ _ (by omega), e_I52, jx_u_s]; rfl
          · rw [e_I56, jx_u_s]; rfl
          · rw [e_I56, jx_u_r _ _ _ (by omega), e_I52, jx_u_r _ _ _ (by omega), e50, jx_u_k _ _ _ _ (by decide), jx_u_s]; rfl
          · rw [e_I56, jx_u_r _ _ _ (by omega), e_I52, jx_u_r _ _ _ (by omega), e50, jx_u_s]; rfl
          · rw [e_I56, jx_u_r _ _ _ (by omega), e_I52, jx_u_k _ _ _ _ hk, e50, jx_u_r _ _ _ (by omega), jx_u_r _ _ _ (by omega), hF43 _ (by omega), hq29 _ (by omega) (by omega)]
          · rw [e_I56, jx_u_k _ _ _ _ hk, e_I52, jx_u_r _ _ _ (by omega), e50, jx_u_r _ _ _ (by omega), jx_u_r _ _ _ (by omega), hF43 _ (by omega), hq29 _ (by omega) (by omega)]
      · obtain ⟨_, e, he, hce, pe, wf9, we9, nf9, hT9⟩ := ho25.resolve_left (fun k => by omega)
        rw [← hlno] at he
        have h77 := hT9.1.2.2.2.2.2.2.1
        refine ⟨hnz, ?_, ?_, ?_, ?_⟩
        · rw [he, e29, jx_u_k _ _ _ _ (by decide), h77]; rfl
        · rw [he, e29, jx_u_k _ _ _ _ (by decide)]; exact hT9.1.2.2.2.2.2.2.2
        · rw [e29, jx_u_s]; rfl
        · rw [he]
          refine ⟨rfl, fun q h1 h2 => ?_⟩
          rw [e29, jx_u_r _ _ _ h1, hF25 q h1 h2]
          exact hF18 q (by omega)
