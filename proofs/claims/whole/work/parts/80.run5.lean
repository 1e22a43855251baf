/-! ===== the reference: runs ===== -/
theorem rns_y {l : LT} {P : PLT} {f a b : Nat} {e : SP} {s : RN} (h : a < b) (hb : b ≤ P.1.length) (hw : yWo s = 0) (he : P.1[a]? = some e) : rns l P (f + 1) a b s = rns l P f e.2.2.2.2 b (stq l P (rns l P f) a e s) := by
  have e1 : P.1.getD a (0, 0, 0, 0, 0) = e := by rw [List.getD_eq_getElem?_getD, he]; rfl
  show (if a < b ∧ b ≤ P.1.length ∧ yWo s = 0 then rns l P f (P.1.getD a (0, 0, 0, 0, 0)).2.2.2.2 b (stq l P (rns l P f) a (P.1.getD a (0, 0, 0, 0, 0)) s) else s) = _
  rw [if_pos ⟨h, hb, hw⟩, e1]
theorem rns_n {l : LT} {P : PLT} {f a b : Nat} {s : RN} (h : b ≤ a ∨ yWo s ≠ 0) : rns l P f a b s = s := by
  cases f with
  | zero => rfl
  | succ f =>
    show (if a < b ∧ b ≤ P.1.length ∧ yWo s = 0 then rns l P f (P.1.getD a (0, 0, 0, 0, 0)).2.2.2.2 b (stq l P (rns l P f) a (P.1.getD a (0, 0, 0, 0, 0)) s) else s) = _
    exact if_neg (fun k => by have k1 := k.1; have k2 := k.2.2; rcases h with h | h <;> omega)
theorem whl_y {rec : RN → RN} {ts : RN → Bool} {n : Nat} {s : RN} (h : yWo (cts s) = 0) (h2 : ts (cts s) = true) : whl rec ts (n + 1) s = whl rec ts n (rec (cts s)) := if_pos ⟨h, h2⟩
theorem whl_n {rec : RN → RN} {ts : RN → Bool} {n : Nat} {s : RN} (h : ¬ (yWo (cts s) = 0 ∧ ts (cts s) = true)) : whl rec ts (n + 1) s = cts s := if_neg h
theorem agn_y {rec : RN → RN} {n : Nat} {s : RN} (h : yWo s = 0) : agn rec (n + 1) s = agn rec n (rec s) := if_pos h
theorem agn_n {rec : RN → RN} {n : Nat} {s : RN} (h : yWo s ≠ 0) : agn rec n s = s := by
  cases n with
  | zero => rfl
  | succ n => exact if_neg h
theorem tst_e {P : PLT} {k : Nat} {t : TE} (h : P.2.1[k]? = some t) : P.2.1.getD k (0, 0, 0, 0) = t := by rw [List.getD_eq_getElem?_getD, h]; rfl
theorem stq_8 {l : LT} {P : PLT} {rec : Nat → Nat → RN → RN} {a : Nat} {e : SP} {t : TE} {s : RN} (h : e.1 = 8) (ht : P.2.1[e.2.2.1]? = some t) : stq l P rec a e s = whl (rec (a + 1) e.2.2.2.1) (fun s => tsb l s P t) 301 s := by
  unfold stq; rw [if_pos h, tst_e ht]
theorem stq_w {l : LT} {P : PLT} {rec : Nat → Nat → RN → RN} {a : Nat} {e : SP} {s : RN} (h : e.1 ≠ 8) (hw : yWo (cts s) ≠ 0) : stq l P rec a e s = cts s := by
  unfold stq; rw [if_neg h, if_neg hw]
theorem stq_7 {l : LT} {P : PLT} {rec : Nat → Nat → RN → RN} {a : Nat} {e : SP} {s : RN} (h : e.1 = 7) (hw : yWo (cts s) = 0) : stq l P rec a e s = agn (rec (a + 1) e.2.2.2.1) e.2.1.toNat (cts s) := by
  unfold stq; rw [if_neg (by omega), if_pos hw, if_pos h]
theorem stq_9y {l : LT} {P : PLT} {rec : Nat → Nat → RN → RN} {a : Nat} {e : SP} {t : TE} {s : RN} (h : e.1 = 9) (hw : yWo (cts s) = 0) (ht : P.2.1[e.2.2.1]? = some t) (hs : tsb l (cts s) P t = true) : stq l P rec a e s = rec (a + 1) e.2.2.2.1 (cts s) := by
  unfold stq; rw [if_neg (by omega), if_pos hw, if_neg (by omega), if_pos h, tst_e ht, if_pos hs]
theorem stq_9n {l : LT} {P : PLT} {rec : Nat → Nat → RN → RN} {a : Nat} {e : SP} {t : TE} {s : RN} (h : e.1 = 9) (hw : yWo (cts s) = 0) (ht : P.2.1[e.2.2.1]? = some t) (hs : ¬ tsb l (cts s) P t = true) : stq l P rec a e s = rec e.2.2.2.1 e.2.2.2.2 (cts s) := by
  unfold stq; rw [if_neg (by omega), if_pos hw, if_neg (by omega), if_pos h, tst_e ht, if_neg hs]
theorem stq_p {l : LT} {P : PLT} {rec : Nat → Nat → RN → RN} {a k : Nat} {e : SP} {s : RN} (h : e.1 = k) (h6 : k ≤ 6) (hw : yWo (cts s) = 0) : stq l P rec a e s = pls l (cts s) k e.2.1 := by
  unfold stq; rw [if_neg (by omega), if_pos hw, if_neg (by omega), if_neg (by omega), h]
theorem FK_fl {m : Nat} {I I' : jx_I} (h : FL m I I') : FK m YK I I' := ⟨fun q a b c => h.1 q a (by omega), fun k hk => h.2 k (fun e => hk (by rw [e]; decide))⟩
theorem MR_fl {I I' : jx_I} {m : Nat} {l : LT} {s : RN} {L : List Nat} (h : MR I m l s) (hW : WT l) (hL : ML I' m 46 (m + 1364) L) (hF : FL m I I') : MR I' m l (s.1, s.2.1, L, yG s, yD s) := by
  have hn := hW.1
  exact ⟨⟨by rw [hF.2 66 (by decide)]; exact h.1.1, by rw [hF.2 67 (by decide)]; exact h.1.2.1, by rw [hF.2 68 (by decide)]; exact h.1.2.2.1, by rw [hF.2 69 (by decide)]; exact h.1.2.2.2.1, by rw [hF.2 70 (by decide)]; exact h.1.2.2.2.2⟩, hL, MH_of h.2.2.1 (fun c hc => hF.1 _ (by omega) (by omega)), MH_of h.2.2.2 (fun c hc => hF.1 _ (by omega) (by omega))⟩
theorem MR_fd {I I' : jx_I} {m : Nat} {l : LT} {s : RN} {g : GT} (h : MR I m l s) (hW : WT l) (hH : MH I' (m + 1347) (Ln l) (Lm l) g) (hF : FR (m + 1347) (m + 1355) I I') : MR I' m l (s.1, s.2.1, yL s, g, yD s) := by
  have hn := hW.1
  have e := hF m (by omega)
  exact ⟨⟨by rw [e]; exact h.1.1, by rw [e]; exact h.1.2.1, by rw [e]; exact h.1.2.2.1, by rw [e]; exact h.1.2.2.2.1, by rw [e]; exact h.1.2.2.2.2⟩, ML_of h.2.1 (by rw [e]) (hF _ (by omega)), hH, MH_of h.2.2.2 (fun c hc => hF _ (by omega))⟩
theorem MR_wa {I : jx_I} {m : Nat} {l : LT} {s : RN} {v : Int} (h : MR I m l s) (hW : WT l) (hv : -2147483648 ≤ yHo s + v ∧ yHo s + v < 2147483648) : MR (jx_u I m 67 (Int32.ofInt (yHo s + v))) m l (pls l s 1 v) := ⟨⟨by rw [jx_u_k _ _ _ _ (by omega)]; exact h.1.1, by rw [jx_u_s]; exact jy_toInt hv, by rw [jx_u_k _ _ _ _ (by omega)]; exact h.1.2.2.1, by rw [jx_u_k _ _ _ _ (by omega)]; exact h.1.2.2.2.1, by rw [jx_u_k _ _ _ _ (by omega)]; exact h.1.2.2.2.2⟩, MN_c h.2 hW (jx_u_k _ _ _ _ (by omega)) (fun z h5 h6 => jx_u_r _ _ _ (by omega))⟩
/-- runs, by those of less steps left -/
def G315 (V : jx_V) (X : jx_X) (R : jx_R) (m : Nat) (l : LT) (P : PLT) (f : Nat) : Prop := ∀ (d a b : Nat) (I : jx_I) (s : RN) (QE : String → jx_I → Prop), MD I m l → MP I m P → MR I m l s → WR 0 l s → a ≤ P.1.length ∧ b ≤ P.1.length → P.1.length ≤ f + a → 7 + f ≤ d → jc V d 315 (0, 0) [.ref m, jy (a : Int), jy (b : Int)] X I R (fun rv I' => rv = none ∧ MR I' m l (rns l P f a b s) ∧ FK m YK I I') QE
