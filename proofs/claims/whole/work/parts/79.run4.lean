/-! ===== what a run keeps ===== -/
theorem pls_1 {l : LT} {s : RN} {v : Int} : pls l s 1 v = ((yHe s, yHo s + v, yLo s), s.2) := rfl
theorem pls_2 {l : LT} {s : RN} {v : Int} : pls l s 2 v = (s.1, s.2.1, yL s, fod (yL s) (yG s), yD s) := rfl
theorem pls_3 {l : LT} {s : RN} {v : Int} : pls l s 3 v = (s.1, s.2.1, yL s, slt (yL s) (yG s) (yD s), yD s) := rfl
theorem pls_4 {l : LT} {s : RN} {v : Int} : pls l s 4 v = (s.1, s.2.1, (yL s).filter (fun c => c != v.toNat), yG s, yD s) := rfl
theorem pls_5 {l : LT} {s : RN} {v : Int} : pls l s 5 v = (s.1, s.2.1, if v.toNat ∈ yL s then yL s else yL s ++ [v.toNat], yG s, yD s) := rfl
theorem pls_6 {l : LT} {s : RN} {v : Int} : pls l s 6 v = (s.1, s.2.1, v.toNat :: (yL s).filter (fun c => c != v.toNat), yG s, yD s) := rfl
theorem WR_L {x : Nat} {l : LT} {s : RN} {L : List Nat} {g d : GT} (h : WR x l s) (h1 : GD g d) (h2 : L.Nodup) (h3 : ∀ c ∈ L, c < Lm l) : WR x l (s.1, s.2.1, L, g, d) := ⟨h.1, h.2.1, h.2.2.1, h.2.2.2.1, h.2.2.2.2.1, h1, h2, h3⟩
theorem GD_fod {L : List Nat} {g d : GT} (h : GD g d) : GD (fod L g) d := fun p c hp hc => by
  have h1 := h p c hp hc
  refine ⟨?_, h1.2⟩
  show 0 ≤ (if c ∈ L then max 0 (g p c - 1) else g p c) ∧ (if c ∈ L then max 0 (g p c - 1) else g p c) ≤ 20
  split <;> omega
theorem GD_slt {L : List Nat} {g d : GT} (h : GD g d) : GD (slt L g d) d := fun p c hp hc => by
  have h1 := h p c hp hc
  refine ⟨?_, h1.2⟩
  show 0 ≤ (if c ∈ L ∧ 0 < g p c ∧ g p c < d p c then g p c + 1 else g p c) ∧ (if c ∈ L ∧ 0 < g p c ∧ g p c < d p c then g p c + 1 else g p c) ≤ 20
  split <;> omega
theorem nd_jo {L : List Nat} {x : Nat} (h : L.Nodup) : (if x ∈ L then L else L ++ [x]).Nodup := by
  split
  · exact h
  · next k => exact List.nodup_append.mpr ⟨h, (by simp), fun a ha b hb e => k (by rw [List.mem_singleton.mp hb] at e; exact e ▸ ha)⟩
theorem nd_le {L : List Nat} {x : Nat} (h : L.Nodup) : (x :: L.filter (fun c => c != x)).Nodup := List.nodup_cons.mpr ⟨fun k => by have := (List.mem_filter.mp k).2; simp at this, h.sublist List.filter_sublist⟩
/-- what a plain step of a plan may ask -/
def VK (l : LT) (k : Nat) (v : Int) : Prop := (0 ≤ v ∧ v ≤ 99) ∧ (k = 0 → v < (Ln l : Int)) ∧ (4 ≤ k → k ≤ 6 → v < (Lm l : Int))
theorem WR_pls {l : LT} {s : RN} {k : Nat} {v : Int} (hW : WT l) (h : WR 1 l s) (hk : k ≤ 6) (hv : VK l k v) : WR 0 l (pls l s k v) ∧ yDo (pls l s k v) = yDo s ∧ yWo (pls l s k v) = yWo s := by
  have hW0 := hW.1
  have h0 := WR_0 h
  have hr1 := h.1
  have hr2 := h.2.1
  have hr3 := h.2.2.1
  have hr4 := h.2.2.2.1
  have hL8 : ∀ c ∈ yL s, c < 8 := fun c hc => by have := h.2.2.2.2.2.2.2 c hc; omega
  have hc : k = 0 ∨ k = 1 ∨ k = 2 ∨ k = 3 ∨ k = 4 ∨ k = 5 ∨ k = 6 := by omega
  have hv1 := hv.1
  have hv2 := hv.2.1
  have hv3 := hv.2.2
  rcases hc with rfl | rfl | rfl | rfl | rfl | rfl | rfl
  · have hq := hv2 rfl
    obtain ⟨q, rfl⟩ : ∃ q : Nat, v = (q : Int) := ⟨v.toNat, by omega⟩
    by_cases hl : Lr l (yHe s) q = 0
    · rw [pls_no hl]
      exact ⟨⟨hr1, by show 0 ≤ yHo s ∧ yHo s ≤ 123 * (yDo s - ((0 : Nat) : Int)); omega, by show 0 ≤ yLo s + 1 ∧ yLo s + 1 ≤ yDo s - ((0 : Nat) : Int); omega, h.2.2.2⟩, rfl, rfl⟩
    · rw [pls_go hl]
      have hrw := (hW.2.2.1 (yHe s) q hr1 (by omega)).1
      have hht := hlt_rng (Lc l) ((yL s).map (yG s q)) (nd (Lk l q))
      exact ⟨⟨by show q < Ln l; omega, by show 0 ≤ yHo s + (Lr l (yHe s) q + hlt (Lc l) ((yL s).map (yG s q)) (nd (Lk l q))) ∧ yHo s + (Lr l (yHe s) q + hlt (Lc l) ((yL s).map (yG s q)) (nd (Lk l q))) ≤ 123 * (yDo s - ((0 : Nat) : Int)); omega, by show 0 ≤ yLo s ∧ yLo s ≤ yDo s - ((0 : Nat) : Int); omega, hr4, h.2.2.2.2.1, GD_c h.2.2.2.2.2.1 (by omega) hL8, h.2.2.2.2.2.2.1, h.2.2.2.2.2.2.2⟩, rfl, rfl⟩
  · rw [pls_1]
    exact ⟨⟨hr1, by show 0 ≤ yHo s + v ∧ yHo s + v ≤ 123 * (yDo s - ((0 : Nat) : Int)); omega, h0.2.2⟩, rfl, rfl⟩
  · rw [pls_2]
    exact ⟨WR_L h0 (GD_fod h.2.2.2.2.2.1) h.2.2.2.2.2.2.1 h.2.2.2.2.2.2.2, rfl, rfl⟩
  · rw [pls_3]
    exact ⟨WR_L h0 (GD_slt h.2.2.2.2.2.1) h.2.2.2.2.2.2.1 h.2.2.2.2.2.2.2, rfl, rfl⟩
  · rw [pls_4]
    exact ⟨WR_L h0 h.2.2.2.2.2.1 (h.2.2.2.2.2.2.1.sublist List.filter_sublist) (fun c hc => h.2.2.2.2.2.2.2 c (List.mem_filter.mp hc).1), rfl, rfl⟩
  · rw [pls_5]
    have h9 := hv3 (by omega) (by omega)
    refine ⟨WR_L h0 h.2.2.2.2.2.1 (nd_jo h.2.2.2.2.2.2.1) (fun c hc => ?_), rfl, rfl⟩
    by_cases k : v.toNat ∈ yL s
    · rw [if_pos k] at hc; exact h.2.2.2.2.2.2.2 c hc
    · rw [if_neg k] at hc
      rcases List.mem_append.mp hc with e | e
      · exact h.2.2.2.2.2.2.2 c e
      · rw [List.mem_singleton.mp e]; omega
  · rw [pls_6]
    have h9 := hv3 (by omega) (by omega)
    refine ⟨WR_L h0 h.2.2.2.2.2.1 (nd_le h.2.2.2.2.2.2.1) (fun c hc => ?_), rfl, rfl⟩
    rcases List.mem_cons.mp hc with e | e
    · rw [e]; omega
    · exact h.2.2.2.2.2.2.2 c (List.mem_filter.mp e).1
theorem WR_cts {l : LT} {s : RN} (h : WR 0 l s) : WR 0 l (cts s) ∧ yDo s ≤ yDo (cts s) ∧ (yWo (cts s) = 0 ∨ yWo (cts s) = 1) ∧ (yWo (cts s) = 0 → WR 1 l (cts s) ∧ yDo (cts s) = yDo s + 1) := by
  have h4 := h.2.2.2.1
  have h2 := h.2.1
  have h3 := h.2.2.1
  by_cases k : yWo s = 0 ∧ yDo s ≠ 300
  · rw [cts_y k.1 k.2]
    have h9 : WR 1 l (s.1, (yDo s + 1, 0), s.2.2) := ⟨h.1, by show 0 ≤ yHo s ∧ yHo s ≤ 123 * (yDo s + 1 - ((1 : Nat) : Int)); omega, by show 0 ≤ yLo s ∧ yLo s ≤ yDo s + 1 - ((1 : Nat) : Int); omega, by show 0 ≤ yDo s + 1 ∧ yDo s + 1 ≤ 300; omega, Or.inl rfl, h.2.2.2.2.2⟩
    exact ⟨WR_0 h9, by show yDo s ≤ yDo s + 1; omega, Or.inl rfl, fun _ => ⟨h9, rfl⟩⟩
  · rw [cts_n k]
    exact ⟨⟨h.1, h2, h3, h4, Or.inr rfl, h.2.2.2.2.2⟩, Int.le_refl _, Or.inr rfl, fun e => absurd e (by show ¬ (1 : Int) = 0; omega)⟩
/-- while: at most n rounds -/
def whl (rec : RN → RN) (ts : RN → Bool) : Nat → RN → RN
  | 0, s => s
  | n + 1, s => if yWo (cts s) = 0 ∧ ts (cts s) = true then whl rec ts n (rec (cts s)) else cts s
/-- n times, unless worn -/
def agn (rec : RN → RN) : Nat → RN → RN
  | 0, s => s
  | n + 1, s => if yWo s = 0 then agn rec n (rec s) else s
/-- one step of a plan, rec runs the steps from one to another -/
def stq (l : LT) (P : PLT) (rec : Nat → Nat → RN → RN) (a : Nat) (e : SP) (s : RN) : RN :=
  if e.1 = 8 then whl (rec (a + 1) e.2.2.2.1) (fun s => tsb l s P (P.2.1.getD e.2.2.1 (0, 0, 0, 0))) 301 s
  else if yWo (cts s) = 0 then
    (if e.1 = 7 then agn (rec (a + 1) e.2.2.2.1) e.2.1.toNat (cts s)
     else if e.1 = 9 then (if tsb l (cts s) P (P.2.1.getD e.2.2.1 (0, 0, 0, 0)) = true then rec (a + 1) e.2.2.2.1 (cts s) else rec e.2.2.2.1 e.2.2.2.2 (cts s))
     else pls l (cts s) e.1 e.2.1)
  else cts s
/-- the steps of a plan from a on, before b -/
def rns (l : LT) (P : PLT) : Nat → Nat → Nat → RN → RN
  | 0, _, _, s => s
  | f + 1, a, b, s => if a < b ∧ b ≤ P.1.length ∧ yWo s = 0 then rns l P f (P.1.getD a (0, 0, 0, 0, 0)).2.2.2.2 b (stq l P (rns l P f) a (P.1.getD a (0, 0, 0, 0, 0)) s) else s
/-- keeps what holds in a run -/
def KR (l : LT) (f : RN → RN) : Prop := ∀ s, WR 0 l s → WR 0 l (f s) ∧ yDo s ≤ yDo (f s)
theorem KR_whl {l : LT} {rec : RN → RN} {ts : RN → Bool} (hr : KR l rec) : ∀ n, KR l (whl rec ts n)
  | 0, s, h => ⟨h, Int.le_refl _⟩
  | n + 1, s, h => by
    have hc := WR_cts h
    show WR 0 l (if yWo (cts s) = 0 ∧ ts (cts s) = true then whl rec ts n (rec (cts s)) else cts s) ∧ yDo s ≤ yDo (if yWo (cts s) = 0 ∧ ts (cts s) = true then whl rec ts n (rec (cts s)) else cts s)
    split
    · have h1 := hr _ hc.1
      have h2 := KR_whl (ts := ts) hr n _ h1.1
      exact ⟨h2.1, Int.le_trans hc.2.1 (Int.le_trans h1.2 h2.2)⟩
    · exact ⟨hc.1, hc.2.1⟩
theorem KR_agn {l : LT} {rec : RN → RN} (hr : KR l rec) : ∀ n, KR l (agn rec n)
  | 0, s, h => ⟨h, Int.le_refl _⟩
  | n + 1, s, h => by
    show WR 0 l (if yWo s = 0 then agn rec n (rec s) else s) ∧ yDo s ≤ yDo (if yWo s = 0 then agn rec n (rec s) else s)
    split
    · have h1 := hr _ h
      have h2 := KR_agn hr n _ h1.1
      exact ⟨h2.1, Int.le_trans h1.2 h2.2⟩
    · exact ⟨h, Int.le_refl _⟩
theorem KR_stq {l : LT} {P : PLT} {rec : Nat → Nat → RN → RN} {a : Nat} {e : SP} (hW : WT l) (hr : ∀ a b, KR l (rec a b)) (he : e.1 ≤ 9) (hv : VK l e.1 e.2.1) : KR l (stq l P rec a e) := fun s h => by
  have hc := WR_cts h
  unfold stq
  by_cases k8 : e.1 = 8
  · rw [if_pos k8]; exact KR_whl (hr _ _) 301 s h
  rw [if_neg k8]
  by_cases kw : yWo (cts s) = 0
  · rw [if_pos kw]
    have h9 := hc.2.2.2 kw
    by_cases k7 : e.1 = 7
    · rw [if_pos k7]
      have h1 := KR_agn (hr (a + 1) e.2.2.2.1) e.2.1.toNat _ hc.1
      exact ⟨h1.1, Int.le_trans hc.2.1 h1.2⟩
    rw [if_neg k7]
    by_cases k9 : e.1 = 9
    · rw [if_pos k9]
      split
      · have h1 := hr (a + 1) e.2.2.2.1 _ hc.1
        exact ⟨h1.1, Int.le_trans hc.2.1 h1.2⟩
      · have h1 := hr e.2.2.2.1 e.2.2.2.2 _ hc.1
        exact ⟨h1.1, Int.le_trans hc.2.1 h1.2⟩
    · rw [if_neg k9]
      have h1 := WR_pls (k := e.1) (v := e.2.1) hW h9.1 (by omega) hv
      exact ⟨h1.1, by rw [h1.2.1]; exact hc.2.1⟩
  · rw [if_neg kw]; exact ⟨hc.1, hc.2.1⟩
theorem WP_e {l : LT} {P : PLT} (hp : WP l P) {a : Nat} (h : a < P.1.length) : P.1[a]? = some (P.1.getD a (0, 0, 0, 0, 0)) := by
  rw [List.getD_eq_getElem?_getD, List.getElem?_eq_getElem h]
  rfl
theorem WP_v {l : LT} {P : PLT} (hp : WP l P) {a : Nat} {e : SP} (h : P.1[a]? = some e) : e.1 ≤ 9 ∧ VK l e.1 e.2.1 := ⟨(hp.2.1 a e h).1, (hp.2.1 a e h).2.1, (hp.2.1 a e h).2.2.1, (hp.2.1 a e h).2.2.2.1⟩
theorem KR_rns {l : LT} {P : PLT} (hW : WT l) (hp : WP l P) : ∀ f a b, KR l (rns l P f a b)
  | 0, a, b, s, h => ⟨h, Int.le_refl _⟩
  | f + 1, a, b, s, h => by
    unfold rns
    split
    · next k =>
      have he := WP_e hp (show a < P.1.length by omega)
      have h1 := KR_stq (P := P) (rec := rns l P f) (a := a) hW (fun c d => KR_rns hW hp f c d) (WP_v hp he).1 (WP_v hp he).2 s h
      have h2 := KR_rns hW hp f (P.1.getD a (0, 0, 0, 0, 0)).2.2.2.2 b _ h1.1
      exact ⟨h2.1, Int.le_trans h1.2 h2.2⟩
    · exact ⟨h, Int.le_refl _⟩
