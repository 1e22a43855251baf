/-! ===== orders of a row, one behind the other ===== -/
/-- all orders of n of B, the first first -/
def lexp : Nat → List Nat → List (List Nat)
  | 0, _ => [[]]
  | n + 1, B => B.flatMap (fun c => (lexp n (B.erase c)).map (c :: ·))
set_option maxRecDepth 100000 in
theorem lex_dec : ∀ k, k < 7 → (lexp k (List.range k)).map nxp = ((lexp k (List.range k)).drop 1).map some ++ [none] ∧ (lexp k (List.range k)).length ≤ 720 ∧ (lexp k (List.range k))[0]? = some (List.range k) := by decide +kernel
theorem lst_map {β : Nat → Nat} {k : Nat} (hb : ∀ i j, i < k → j < k → (β i < β j ↔ i < j)) {x : Nat} (hx : x < k) : ∀ {t : List Nat}, (∀ z ∈ t, z < k) → lst (β x) (t.map β) = (lst x t).map (fun e => (β e.1, e.2.map β))
  | [], _ => rfl
  | y :: t, h => by
    have hy := h y (by simp)
    show lst (β x) (β y :: t.map β) = _
    unfold lst
    rw [lst_map hb hx (fun z hz => h z (List.mem_cons_of_mem _ hz))]
    cases lst x t with
    | some e => rfl
    | none =>
      show (if β x < β y then some (β y, β x :: t.map β) else none) = Option.map _ (if x < y then some (y, x :: t) else none)
      by_cases e : x < y
      · rw [if_pos e, if_pos ((hb x y hx hy).mpr e)]; rfl
      · rw [if_neg e, if_neg (fun e2 => e ((hb x y hx hy).mp e2))]; rfl
theorem nxp_map {β : Nat → Nat} {k : Nat} (hb : ∀ i j, i < k → j < k → (β i < β j ↔ i < j)) : ∀ {t : List Nat}, (∀ z ∈ t, z < k) → nxp (t.map β) = (nxp t).map (List.map β)
  | [], _ => rfl
  | x :: t, h => by
    have hx := h x (by simp)
    have ht : ∀ z ∈ t, z < k := fun z hz => h z (List.mem_cons_of_mem _ hz)
    show nxp (β x :: t.map β) = _
    unfold nxp
    rw [nxp_map hb ht, lst_map hb hx ht]
    cases nxp t with
    | some e => rfl
    | none =>
      cases lst x t with
      | some e =>
        show some (β e.1 :: (e.2.map β).reverse) = some (List.map β (e.1 :: e.2.reverse))
        rw [List.map_cons, List.map_reverse]
      | none => rfl
theorem erase_map {β : Nat → Nat} {c : Nat} : ∀ {B : List Nat}, (∀ z ∈ B, β z = β c → z = c) → (B.map β).erase (β c) = (B.erase c).map β
  | [], _ => rfl
  | b :: B, h => by
    have hb := h b (by simp)
    rw [List.map_cons, List.erase_cons, List.erase_cons]
    by_cases e : b = c
    · subst e; simp
    · have e2 : β b ≠ β c := fun k => e (hb k)
      rw [if_neg (by simpa using e2), if_neg (by simpa using e), List.map_cons, erase_map (fun z hz => h z (List.mem_cons_of_mem _ hz))]
theorem lexp_map {β : Nat → Nat} : ∀ (n : Nat) (B : List Nat), (∀ a ∈ B, ∀ b ∈ B, β a = β b → a = b) → lexp n (B.map β) = (lexp n B).map (List.map β)
  | 0, _, _ => rfl
  | n + 1, B, h => by
    show (B.map β).flatMap (fun c => (lexp n ((B.map β).erase c)).map (c :: ·)) = (B.flatMap (fun c => (lexp n (B.erase c)).map (c :: ·))).map (List.map β)
    rw [List.flatMap_map, List.map_flatMap]
    have key : ∀ c ∈ B, (lexp n ((B.map β).erase (β c))).map (β c :: ·) = ((lexp n (B.erase c)).map (c :: ·)).map (List.map β) := fun c hc => by
      rw [erase_map (fun z hz => h z hz c hc), lexp_map n (B.erase c) (fun a ha b hb => h a (List.mem_of_mem_erase ha) b (List.mem_of_mem_erase hb)), List.map_map, List.map_map]
      rfl
    have aux : ∀ (B2 : List Nat) (f g : Nat → List (List Nat)), (∀ c ∈ B2, f c = g c) → B2.flatMap f = B2.flatMap g := by
      intro B2 f g
      induction B2 with
      | nil => intro _; rfl
      | cons b B2 ih => intro hh; rw [List.flatMap_cons, List.flatMap_cons, hh b (by simp), ih (fun c hc => hh c (List.mem_cons_of_mem _ hc))]
    exact aux B _ _ key
theorem lexp_in : ∀ (n : Nat) (B : List Nat), ∀ L ∈ lexp n B, L.length = n ∧ ∀ x ∈ L, x ∈ B
  | 0, B, L, h => by
    rw [List.mem_singleton.mp h]
    exact ⟨rfl, fun x hx => by cases hx⟩
  | n + 1, B, L, h => by
    obtain ⟨c, hc, h2⟩ := List.mem_flatMap.mp h
    obtain ⟨L2, h3, rfl⟩ := List.mem_map.mp h2
    have h4 := lexp_in n (B.erase c) L2 h3
    refine ⟨by rw [List.length_cons, h4.1], fun x hx => ?_⟩
    rcases List.mem_cons.mp hx with e | e
    · rw [e]; exact hc
    · exact List.mem_of_mem_erase (h4.2 x e)
theorem lexp_nd : ∀ (n : Nat) (B : List Nat), B.Nodup → ∀ L ∈ lexp n B, L.Nodup
  | 0, B, _, L, h => by rw [List.mem_singleton.mp h]; exact List.nodup_nil
  | n + 1, B, hB, L, h => by
    obtain ⟨c, hc, h2⟩ := List.mem_flatMap.mp h
    obtain ⟨L2, h3, rfl⟩ := List.mem_map.mp h2
    have h4 := lexp_nd n (B.erase c) (hB.erase c) L2 h3
    exact List.nodup_cons.mpr ⟨fun e => by have := (lexp_in n _ L2 h3).2 c e; exact (List.Nodup.not_mem_erase hB) this, h4⟩
theorem bl_lt (B n : Nat) : (bl B n).Pairwise (· < ·) := List.Pairwise.filter _ List.pairwise_lt_range
/-- the orders of the camels of bits: one behind the other by nxp -/
theorem lex_bl {B k : Nat} (hk : (bl B 8).length = k) (h6 : k ≤ 6) : (lexp k (bl B 8)).map nxp = ((lexp k (bl B 8)).drop 1).map some ++ [none] ∧ (lexp k (bl B 8)).length ≤ 720 ∧ (lexp k (bl B 8))[0]? = some (bl B 8) := by
  have hp := bl_lt B 8
  generalize bl B 8 = W at hk hp
  have hW : W = (List.range k).map (fun i => W.getD i 0) := by
    apply List.ext_getElem?
    intro i
    rcases Nat.lt_or_ge i k with h | h
    · rw [List.getElem?_map, List.getElem?_range h, List.getElem?_eq_getElem (by omega)]
      show some _ = some _
      congr 1
      show _ = W.getD i 0
      rw [List.getD_eq_getElem?_getD, List.getElem?_eq_getElem (by omega)]; rfl
    · rw [List.getElem?_eq_none (by omega), List.getElem?_eq_none (by rw [List.length_map, List.length_range]; omega)]
  have hlt : ∀ i j, i < j → j < k → W.getD i 0 < W.getD j 0 := fun i j h1 h2 => by
    rw [List.getD_eq_getElem?_getD, List.getD_eq_getElem?_getD, List.getElem?_eq_getElem (show i < W.length by omega), List.getElem?_eq_getElem (show j < W.length by omega)]
    exact List.pairwise_iff_getElem.mp hp i j (by omega) (by omega) h1
  have hb : ∀ i j, i < k → j < k → (W.getD i 0 < W.getD j 0 ↔ i < j) := fun i j h1 h2 => by
    constructor
    · intro h
      rcases Nat.lt_trichotomy i j with c | c | c
      · exact c
      · subst c; omega
      · have := hlt j i c h1; omega
    · exact fun h => hlt i j h h2
  have hinj : ∀ a ∈ List.range k, ∀ b ∈ List.range k, W.getD a 0 = W.getD b 0 → a = b := fun a ha b hb2 e => by
    have h1 := List.mem_range.mp ha
    have h2 := List.mem_range.mp hb2
    rcases Nat.lt_trichotomy a b with c | c | c
    · have := hlt a b c h2; omega
    · exact c
    · have := hlt b a c h1; omega
  have hd := lex_dec k (by omega)
  have hm := lexp_map (β := fun i => W.getD i 0) k (List.range k) hinj
  rw [← hW] at hm
  have hn : ((lexp k (List.range k)).map (List.map (fun i => W.getD i 0))).map nxp = ((lexp k (List.range k)).map nxp).map (Option.map (List.map (fun i => W.getD i 0))) := by
    rw [List.map_map, List.map_map]
    apply List.map_congr_left
    intro L hL
    exact nxp_map hb (fun z hz => List.mem_range.mp ((lexp_in k _ L hL).2 z hz))
  rw [hm]
  refine ⟨?_, by rw [List.length_map]; exact hd.2.1, by rw [List.getElem?_map, hd.2.2]; show some _ = some _; rw [← hW]⟩
  rw [hn, hd.1, List.map_append, List.map_map, ← List.map_drop, List.map_map]
  rfl
/-- griefs hang on who goes, not on the order -/
theorem tg_mem {mo : Nat → Int} {L L' : List Nat} {q : Nat} {g : GT} (h : ∀ c, c ∈ L ↔ c ∈ L') : tg mo L L q g = tg mo L' L' q g := by
  funext a c
  unfold tg
  simp only [h]
theorem td_mem {mo : Nat → Int} {L L' : List Nat} {q : Nat} {g d : GT} (h : ∀ c, c ∈ L ↔ c ∈ L') : td mo L L q g d = td mo L' L' q g d := by
  funext a c
  unfold td
  simp only [h]
theorem cm_mem {k : Int} {mo : Nat → Int} {L L' : List Nat} {q : Nat} {g d : GT} (h : ∀ c, c ∈ L ↔ c ∈ L') : cmg k mo L q g d = cmg k mo L' q g d := by
  unfold cmg
  rw [tg_mem h, td_mem h]
  have e1 : fod L = fod L' := by funext g a c; unfold fod; simp only [h]
  have e2 : slt L = slt L' := by funext g d a c; unfold slt; simp only [h]
  rw [e1, e2]
theorem jst_mem {l : LT} {J L L' : List Nat} {g d : GT} (h : ∀ c, c ∈ L ↔ c ∈ L') : ∀ k, jst l J L g d k = jst l J L' g d k
  | 0 => rfl
  | k + 1 => by
    unfold jst
    rw [jst_mem h k, cm_mem h]
    unfold cmd
    rw [td_mem h]
/-- an order is tried: hours, the best row -/
def rst (l : LT) (c : CT) (s : Int × List Nat) (L : List Nat) : Int × List Nat := if qn (Lf l) L (L.length - 1) = 0 ∧ (s.1 < 0 ∨ hrs l (CJ c) L (Cg c) (Cd c) < s.1) then (hrs l (CJ c) L (Cg c) (Cd c), L) else s
/-- the best order of the camels of bits -/
def rop (l : LT) (c : CT) (B : Nat) : Int × List Nat := (lexp (bl B 8).length (bl B 8)).foldl (rst l c) (-1, [])
def roa (l : LT) (c : CT) (B : Nat) (a : Int) : Int := if (rop l c B).1 = -1 then -1 else if a = 0 then (rop l c B).1 else (dec (rop l c B).2 : Int)
theorem rst_k {l : LT} {c : CT} (hW : WT l) (hC : WC l c) (hj : CJ c ≠ []) {s : Int × List Nat} {L : List Nat} (hs : (-1 ≤ s.1 ∧ s.1 ≤ 1500) ∧ s.2.length ≤ 6 ∧ ∀ x ∈ s.2, x < 8) (hL : L.length ≤ 6 ∧ ∀ x ∈ L, x < 8) : (-1 ≤ (rst l c s L).1 ∧ (rst l c s L).1 ≤ 1500) ∧ (rst l c s L).2.length ≤ 6 ∧ ∀ x ∈ (rst l c s L).2, x < 8 := by
  have hr := hrs_rng hW (WC_J hC hj).2.1 (WC_J hC hj).1.2 L (Cg c) (Cd c)
  unfold rst
  split
  · exact ⟨by show -1 ≤ hrs l (CJ c) L (Cg c) (Cd c) ∧ hrs l (CJ c) L (Cg c) (Cd c) ≤ 1500; omega, hL⟩
  · exact hs
