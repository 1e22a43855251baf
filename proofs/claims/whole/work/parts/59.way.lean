/-! ===== ways: the least ===== -/
/-- a way from a by the places M to b: are there roads; its hours by halts h -/
def ie (l : LT) : Nat → List Nat → Nat → Prop
  | a, [], b => Lr l a b ≠ 0
  | a, c :: M, b => c < Ln l ∧ Lr l a c ≠ 0 ∧ ie l c M b
def iw (l : LT) (h : Nat → Int) : Nat → List Nat → Nat → Int
  | a, [], b => Lr l a b + h b
  | a, c :: M, b => Lr l a c + h c + iw l h c M b
theorem ie_app {l : LT} {k b : Nat} : ∀ (M1 : List Nat) (a : Nat) (M2 : List Nat), ie l a (M1 ++ k :: M2) b ↔ ie l a M1 k ∧ k < Ln l ∧ ie l k M2 b
  | [], a, M2 => by
    show (k < Ln l ∧ Lr l a k ≠ 0 ∧ ie l k M2 b) ↔ (Lr l a k ≠ 0 ∧ k < Ln l ∧ ie l k M2 b)
    exact ⟨fun h => ⟨h.2.1, h.1, h.2.2⟩, fun h => ⟨h.2.1, h.1, h.2.2⟩⟩
  | c :: M1, a, M2 => by
    show (c < Ln l ∧ Lr l a c ≠ 0 ∧ ie l c (M1 ++ k :: M2) b) ↔ ((c < Ln l ∧ Lr l a c ≠ 0 ∧ ie l c M1 k) ∧ k < Ln l ∧ ie l k M2 b)
    rw [ie_app M1 c M2]
    exact ⟨fun h => ⟨⟨h.1, h.2.1, h.2.2.1⟩, h.2.2.2⟩, fun h => ⟨h.1.1, h.1.2.1, h.1.2.2, h.2⟩⟩
theorem iw_app {l : LT} {h : Nat → Int} {k b : Nat} : ∀ (M1 : List Nat) (a : Nat) (M2 : List Nat), iw l h a (M1 ++ k :: M2) b = iw l h a M1 k + iw l h k M2 b
  | [], a, M2 => rfl
  | c :: M1, a, M2 => by
    show Lr l a c + h c + iw l h c (M1 ++ k :: M2) b = (Lr l a c + h c + iw l h c M1 k) + iw l h k M2 b
    rw [iw_app M1 c M2]; omega
/-- halts are hours -/
def HP (l : LT) (h : Nat → Int) : Prop := ∀ q, q < Ln l → 0 ≤ h q ∧ h q ≤ 99
theorem ie_1 {l : LT} (hW : WT l) {a b : Nat} (ha : a < Ln l) (hb : b < Ln l) (h : Lr l a b ≠ 0) : 1 ≤ Lr l a b ∧ Lr l a b ≤ 24 := by
  have := (hW.2.2.1 a b ha hb).1
  omega
theorem iw_rng {l : LT} {h : Nat → Int} (hW : WT l) (hH : HP l h) {b : Nat} (hb : b < Ln l) : ∀ (M : List Nat) (a : Nat), a < Ln l → ie l a M b → 1 ≤ iw l h a M b ∧ iw l h a M b ≤ 123 * (M.length + 1 : Nat)
  | [], a, ha, hi => by
    have h1 := ie_1 hW ha hb hi
    have h2 := hH b hb
    show 1 ≤ Lr l a b + h b ∧ Lr l a b + h b ≤ 123 * ((0 + 1 : Nat) : Int)
    omega
  | c :: M, a, ha, hi => by
    have h1 := ie_1 hW ha hi.1 hi.2.1
    have h2 := hH c hi.1
    have h3 := iw_rng hW hH hb M c hi.1 hi.2.2
    show 1 ≤ Lr l a c + h c + iw l h c M b ∧ Lr l a c + h c + iw l h c M b ≤ 123 * ((M.length + 1 + 1 : Nat) : Int)
    omega
theorem ie_lt {l : LT} {b : Nat} : ∀ (M : List Nat) (a : Nat), ie l a M b → ∀ x ∈ M, x < Ln l
  | [], _, _ => fun x hx => by cases hx
  | c :: M, _, hi => fun x hx => by
    rcases List.mem_cons.mp hx with h | h
    · rw [h]; exact hi.1
    · exact ie_lt M c hi.2.2 x h
/-- a way without a place twice, no dearer -/
theorem ie_nd {l : LT} {h : Nat → Int} (hW : WT l) (hH : HP l h) {b : Nat} (hb : b < Ln l) : ∀ (M : List Nat) (a : Nat), a < Ln l → ie l a M b → ∃ N, ie l a N b ∧ iw l h a N b ≤ iw l h a M b ∧ N.Nodup ∧ b ∉ N
  | [], a, _, hi => ⟨[], hi, Int.le_refl _, List.nodup_nil, by simp⟩
  | c :: M, a, ha, hi => by
    obtain ⟨N, h1, h2, h3, h4⟩ := ie_nd hW hH hb M c hi.1 hi.2.2
    by_cases hcb : c = b
    · subst hcb
      have h5 := iw_rng hW hH hb M c hi.1 hi.2.2
      exact ⟨[], hi.2.1, by show Lr l a c + h c ≤ Lr l a c + h c + iw l h c M c; omega, List.nodup_nil, by simp⟩
    · by_cases hc : c ∈ N
      · obtain ⟨A, B, rfl⟩ := List.append_of_mem hc
        rw [ie_app] at h1
        rw [iw_app] at h2
        have h5 := iw_rng hW hH h1.2.1 A c hi.1 h1.1
        have h6 : (c :: B).Nodup := List.Nodup.sublist (List.sublist_append_right A (c :: B)) h3
        exact ⟨c :: B, ⟨hi.1, hi.2.1, h1.2.2⟩, by show Lr l a c + h c + iw l h c B b ≤ Lr l a c + h c + iw l h c M b; omega, h6, fun hx => h4 (List.mem_append_right A hx)⟩
      · exact ⟨c :: N, ⟨hi.1, hi.2.1, h1⟩, by show Lr l a c + h c + iw l h c N b ≤ Lr l a c + h c + iw l h c M b; omega, List.nodup_cons.mpr ⟨hc, h3⟩, fun hx => by
          rcases List.mem_cons.mp hx with hx | hx
          · exact hcb hx.symm
          · exact h4 hx⟩
theorem ie_short {l : LT} {h : Nat → Int} (hW : WT l) (hH : HP l h) {a b : Nat} {M : List Nat} (ha : a < Ln l) (hb : b < Ln l) (hi : ie l a M b) : ∃ N, ie l a N b ∧ iw l h a N b ≤ iw l h a M b ∧ N.length < Ln l ∧ iw l h a N b ≤ 1230 := by
  obtain ⟨N, h1, h2, h3, h4⟩ := ie_nd hW hH hb M a ha hi
  have h5 := nd_len (Ln l) (b :: N) (List.nodup_cons.mpr ⟨h4, h3⟩) (fun x hx => by
    rcases List.mem_cons.mp hx with hx | hx
    · rw [hx]; exact hb
    · exact ie_lt N a h1 x hx)
  simp only [List.length_cons] at h5
  have h6 := (iw_rng hW hH hb N a ha h1).2
  have h7 := hW.1.1
  exact ⟨N, h1, h2, by omega, by omega⟩
/-- the least hours of a way -/
def LSv (l : LT) (h : Nat → Int) (a b : Nat) (v : Int) : Prop := ((a = b ∧ v = 0) ∨ ∃ M, ie l a M b ∧ iw l h a M b = v) ∧ (a = b → v ≤ 0) ∧ ∀ M, ie l a M b → v ≤ iw l h a M b
noncomputable def dst (l : LT) (h : Nat → Int) (a b : Nat) : Int := @dite _ (∃ v, LSv l h a b v) (Classical.propDecidable _) (fun e => Classical.choose e) (fun _ => -1)
theorem LSv_u {l : LT} {h : Nat → Int} {a b : Nat} {v w : Int} (h1 : LSv l h a b v) (h2 : LSv l h a b w) : v = w := by
  have key : ∀ v w, LSv l h a b v → LSv l h a b w → v ≤ w := fun v w h1 h2 => by
    rcases h2.1 with ⟨e, e2⟩ | ⟨M, e, e2⟩
    · rw [e2]; exact h1.2.1 e
    · rw [← e2]; exact h1.2.2 M e
  have := key v w h1 h2
  have := key w v h2 h1
  omega
theorem dst_of {l : LT} {h : Nat → Int} {a b : Nat} {v : Int} (h1 : LSv l h a b v) : dst l h a b = v := by
  unfold dst
  rw [dif_pos ⟨v, h1⟩]
  exact LSv_u (Classical.choose_spec ⟨v, h1⟩) h1
theorem dst_no {l : LT} {h : Nat → Int} {a b : Nat} (hn : a ≠ b) (h1 : ∀ M, ¬ ie l a M b) : dst l h a b = -1 := by
  unfold dst
  rw [dif_neg]
  rintro ⟨v, h2⟩
  rcases h2.1 with ⟨e, _⟩ | ⟨M, e, _⟩
  · exact hn e
  · exact h1 M e
theorem dst_0 {l : LT} {h : Nat → Int} (hW : WT l) (hH : HP l h) {a : Nat} (ha : a < Ln l) : dst l h a a = 0 :=
  dst_of ⟨Or.inl ⟨rfl, rfl⟩, fun _ => Int.le_refl _, fun M hM => by have := (iw_rng hW hH ha M a ha hM).1; omega⟩
/-- -1, or the least -/
theorem dst_or {l : LT} {h : Nat → Int} (hW : WT l) (hH : HP l h) {a b : Nat} (ha : a < Ln l) (hb : b < Ln l) : (dst l h a b = -1 ∧ a ≠ b ∧ ∀ M, ¬ ie l a M b) ∨ (LSv l h a b (dst l h a b) ∧ 0 ≤ dst l h a b ∧ dst l h a b ≤ 1230) := by
  by_cases hab : a = b
  · subst hab
    have h0 := dst_0 hW hH ha
    exact Or.inr ⟨by rw [h0]; exact ⟨Or.inl ⟨rfl, rfl⟩, fun _ => Int.le_refl _, fun M hM => by have := (iw_rng hW hH ha M a ha hM).1; omega⟩, by omega, by omega⟩
  · by_cases he : ∃ M, ie l a M b
    · have hmin : ∃ n : Nat, (∃ M, ie l a M b ∧ iw l h a M b = (n : Int)) ∧ ∀ m : Nat, m < n → ¬ ∃ M, ie l a M b ∧ iw l h a M b = (m : Int) := by
        obtain ⟨M, hM⟩ := he
        have hr := (iw_rng hW hH hb M a ha hM).1
        have key : ∀ n : Nat, (∃ M, ie l a M b ∧ iw l h a M b = (n : Int)) → ∃ n : Nat, (∃ M, ie l a M b ∧ iw l h a M b = (n : Int)) ∧ ∀ m : Nat, m < n → ¬ ∃ M, ie l a M b ∧ iw l h a M b = (m : Int) := by
          intro n
          induction n using Nat.strongRecOn with
          | ind n ih =>
            intro hn
            by_cases hx : ∃ m : Nat, m < n ∧ ∃ M, ie l a M b ∧ iw l h a M b = (m : Int)
            · obtain ⟨m, h1, h2⟩ := hx
              exact ih m h1 h2
            · exact ⟨n, hn, fun m h1 h2 => hx ⟨m, h1, h2⟩⟩
        exact key (iw l h a M b).toNat ⟨M, hM, by omega⟩
      obtain ⟨n, ⟨M, h1, h2⟩, h3⟩ := hmin
      have hle : ∀ N, ie l a N b → (n : Int) ≤ iw l h a N b := fun N hN => by
        have hr := (iw_rng hW hH hb N a ha hN).1
        rcases Int.lt_or_le (iw l h a N b) n with h4 | h4
        · exact absurd ⟨N, hN, by omega⟩ (h3 (iw l h a N b).toNat (by omega))
        · exact h4
      have hL : LSv l h a b (n : Int) := ⟨Or.inr ⟨M, h1, h2⟩, fun e => absurd e hab, hle⟩
      rw [dst_of hL]
      obtain ⟨N, h5, h6, h7, h8⟩ := ie_short hW hH ha hb h1
      have := hle N h5
      exact Or.inr ⟨hL, by omega, by omega⟩
    · have hn : ∀ M, ¬ ie l a M b := fun M hM => he ⟨M, hM⟩
      exact Or.inl ⟨dst_no hab hn, hab, hn⟩
/-- hours, far: none -/
def fd (x : Int) : Int := if x = -1 then 1000000 else x
/-- between phases of the class: k places may lie between -/
def FW (l : LT) (h : Nat → Int) (k : Nat) (v : Nat → Nat → Int) : Prop := ∀ a b, a < Ln l → b < Ln l → ((v a b = 1000000 ∧ a ≠ b) ∨ (a = b ∧ v a b = 0) ∨ ∃ M, ie l a M b ∧ iw l h a M b = v a b) ∧ (0 ≤ v a b ∧ v a b ≤ 1000000) ∧ (a = b → v a b = 0) ∧ ∀ M, ie l a M b → (∀ x ∈ M, x < k) → v a b ≤ iw l h a M b
theorem FW_0 {l : LT} {h : Nat → Int} (hW : WT l) (hH : HP l h) : FW l h 0 (fun a b => if a = b then 0 else if Lr l a b = 0 then 1000000 else Lr l a b + h b) := by
  intro a b ha hb
  have h1 := (hW.2.2.1 a b ha hb).1
  have h2 := hH b hb
  refine ⟨?_, ?_, fun e => if_pos e, ?_⟩
  · by_cases e : a = b
    · exact Or.inr (Or.inl ⟨e, if_pos e⟩)
    · by_cases e2 : Lr l a b = 0
      · exact Or.inl ⟨by simp only [if_neg e, if_pos e2], e⟩
      · exact Or.inr (Or.inr ⟨[], e2, by simp only [if_neg e, if_neg e2]; rfl⟩)
  · by_cases e : a = b
    · simp only [if_pos e]; omega
    · by_cases e2 : Lr l a b = 0
      · simp only [if_neg e, if_pos e2]; omega
      · simp only [if_neg e, if_neg e2]; omega
  · intro M hM hx
    cases M with
    | nil =>
      have e2 : Lr l a b ≠ 0 := hM
      by_cases e : a = b
      · simp only [if_pos e]
        show 0 ≤ Lr l a b + h b
        omega
      · simp only [if_neg e, if_neg e2]
        exact Int.le_refl _
    | cons c M => exact absurd (hx c (by simp)) (by omega)
theorem FW_s {l : LT} {h : Nat → Int} {k : Nat} {v : Nat → Nat → Int} (hW : WT l) (hH : HP l h) (hk : k < Ln l) (hv : FW l h k v) : FW l h (k + 1) (fun a b => min (v a b) (v a k + v k b)) := by
  have hA : ∀ a, a < Ln l → ∀ (n : Nat) (M : List Nat), M.length = n → ie l a M k → (∀ x ∈ M, x < k + 1) → v a k ≤ iw l h a M k := by
    intro a ha n
    induction n using Nat.strongRecOn with
    | ind n ih =>
      intro M hn hM hx
      by_cases hkm : k ∈ M
      · obtain ⟨A, B, rfl⟩ := List.append_of_mem hkm
        rw [ie_app] at hM
        rw [iw_app]
        have h1 := ih A.length (by rw [← hn]; simp) A rfl hM.1 (fun x hx2 => hx x (List.mem_append_left _ hx2))
        have h2 := (iw_rng hW hH hk B k hk hM.2.2).1
        omega
      · exact (hv a k ha hk).2.2.2 M hM (fun x hx2 => by
          have := hx x hx2
          have : x ≠ k := fun e => hkm (e ▸ hx2)
          omega)
  have hB : ∀ b, b < Ln l → ∀ (n : Nat) (M : List Nat), M.length = n → ie l k M b → (∀ x ∈ M, x < k + 1) → v k b ≤ iw l h k M b := by
    intro b hb n
    induction n using Nat.strongRecOn with
    | ind n ih =>
      intro M hn hM hx
      by_cases hkm : k ∈ M
      · obtain ⟨A, B, rfl⟩ := List.append_of_mem hkm
        rw [ie_app] at hM
        rw [iw_app]
        have h1 := ih B.length (by rw [← hn]; simp; omega) B rfl hM.2.2 (fun x hx2 => hx x (List.mem_append_right _ (List.mem_cons_of_mem _ hx2)))
        have h2 := (iw_rng hW hH hk A k hk hM.1).1
        omega
      · exact (hv k b hk hb).2.2.2 M hM (fun x hx2 => by
          have := hx x hx2
          have : x ≠ k := fun e => hkm (e ▸ hx2)
          omega)
  intro a b ha hb
  obtain ⟨h1, h2, h3, h4⟩ := hv a b ha hb
  obtain ⟨a1, a2, a3, a4⟩ := hv a k ha hk
  obtain ⟨b1, b2, b3, b4⟩ := hv k b hk hb
  refine ⟨?_, by show 0 ≤ min (v a b) (v a k + v k b) ∧ min (v a b) (v a k + v k b) ≤ 1000000; omega, fun e => by have := h3 e; show min (v a b) (v a k + v k b) = 0; omega, ?_⟩
  · rcases Int.lt_or_le (v a k + v k b) (v a b) with h5 | h5
    · have e : min (v a b) (v a k + v k b) = v a k + v k b := by omega
      simp only [e]
      rcases a1 with a1 | a1 | ⟨M1, a1, a5⟩
      · omega
      · rcases b1 with b1 | b1 | ⟨M2, b1, b5⟩
        · omega
        · exact Or.inr (Or.inl ⟨a1.1.trans b1.1, by omega⟩)
        · refine Or.inr (Or.inr ⟨M2, by rw [a1.1]; exact b1, by rw [a1.1] at *; omega⟩)
      · rcases b1 with b1 | b1 | ⟨M2, b1, b5⟩
        · omega
        · refine Or.inr (Or.inr ⟨M1, by rw [← b1.1]; exact a1, by rw [← b1.1] at *; omega⟩)
        · exact Or.inr (Or.inr ⟨M1 ++ k :: M2, (ie_app M1 a M2).mpr ⟨a1, hk, b1⟩, by rw [iw_app]; omega⟩)
    · have e : min (v a b) (v a k + v k b) = v a b := by omega
      simp only [e]
      exact h1
  · intro M hM hx
    show min (v a b) (v a k + v k b) ≤ _
    by_cases hkm : k ∈ M
    · obtain ⟨A, B, rfl⟩ := List.append_of_mem hkm
      rw [ie_app] at hM
      rw [iw_app]
      have c1 := hA a ha A.length A rfl hM.1 (fun x hx2 => hx x (List.mem_append_left _ hx2))
      have c2 := hB b hb B.length B rfl hM.2.2 (fun x hx2 => hx x (List.mem_append_right _ (List.mem_cons_of_mem _ hx2)))
      omega
    · have c1 := h4 M hM (fun x hx2 => by
        have := hx x hx2
        have : x ≠ k := fun e => hkm (e ▸ hx2)
        omega)
      omega
theorem FW_n {l : LT} {h : Nat → Int} {v : Nat → Nat → Int} (hW : WT l) (hH : HP l h) (hv : FW l h (Ln l) v) {a b : Nat} (ha : a < Ln l) (hb : b < Ln l) : v a b = fd (dst l h a b) := by
  obtain ⟨h1, h2, h3, h4⟩ := hv a b ha hb
  have h5 : ∀ M, ie l a M b → v a b ≤ iw l h a M b := fun M hM => h4 M hM (ie_lt M a hM)
  rcases h1 with h1 | h1 | h1
  · rw [dst_no h1.2 (fun M hM => by
      obtain ⟨N, c1, _, _, c2⟩ := ie_short hW hH ha hb hM
      have := h5 N c1
      omega), h1.1]; rfl
  · rw [dst_of (v := 0) ⟨Or.inl ⟨h1.1, rfl⟩, fun _ => Int.le_refl _, fun M hM => by have := h5 M hM; omega⟩, h1.2]; rfl
  · rw [dst_of (v := v a b) ⟨Or.inr h1, fun e => by have := h3 e; omega, h5⟩]
    unfold fd
    rw [if_neg (by omega)]
/-- between rounds of the reference: ways to t with less than r places between -/
def BF (l : LT) (h : Nat → Int) (t r : Nat) (u : Nat → Int) : Prop := u t = 0 ∧ (∀ a, a < Ln l → -1 ≤ u a ∧ u a ≤ 12300 * (r : Int) ∧ (u a = -1 ∨ (a = t ∧ u a = 0) ∨ ∃ M, ie l a M t ∧ iw l h a M t = u a)) ∧ ∀ a M, a < Ln l → ie l a M t → M.length < r → u a ≠ -1 ∧ u a ≤ iw l h a M t
theorem BF_n {l : LT} {h : Nat → Int} {t r : Nat} {u : Nat → Int} (hW : WT l) (hH : HP l h) (ht : t < Ln l) (hu : BF l h t r u) (hr : Ln l ≤ r) {a : Nat} (ha : a < Ln l) : u a = dst l h a t := by
  obtain ⟨h0, h1, h2⟩ := hu
  have h3 : ∀ M, ie l a M t → u a ≠ -1 ∧ u a ≤ iw l h a M t := fun M hM => by
    obtain ⟨N, c1, c3, c4, c2⟩ := ie_short hW hH ha ht hM
    have := h2 a N ha c1 (by omega)
    exact ⟨this.1, by omega⟩
  by_cases hat : a = t
  · subst hat
    rw [h0, dst_0 hW hH ht]
  · rcases (h1 a ha).2.2 with e | e | ⟨M, e, e2⟩
    · rw [dst_no hat (fun M hM => (h3 M hM).1 e), e]
    · exact absurd e.1 hat
    · rw [dst_of (v := u a) ⟨Or.inr ⟨M, e, e2⟩, fun e => absurd e hat, fun M hM => (h3 M hM).2⟩]
