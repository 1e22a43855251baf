/-! ===== the path of a least way; class Ways ===== -/
theorem dst_p {l : LT} {h : Nat → Int} (hW : WT l) (hH : HP l h) {a b : Nat} (ha : a < Ln l) (hb : b < Ln l) (hn : a ≠ b) (hd : dst l h a b ≠ -1) : 1 ≤ dst l h a b := by
  rcases dst_or hW hH ha hb with ⟨e, _⟩ | ⟨⟨e, _⟩, _⟩
  · exact absurd e hd
  · rcases e with e | ⟨M, e1, e2⟩
    · exact absurd e.1 hn
    · have := (iw_rng hW hH hb M a ha e1).1; omega
/-- the first one of n from k on for which it is so -/
def fs (P : Nat → Bool) : Nat → Nat → Nat
  | 0, k => k
  | n + 1, k => if P k then k else fs P n (k + 1)
theorem fs_eq {P : Nat → Bool} {i : Nat} (hi : P i = true) : ∀ n k, (∀ q, k ≤ q → q < i → P q = false) → k ≤ i → i < k + n → fs P n k = i
  | 0, k, _, h1, h2 => by omega
  | n + 1, k, h, h1, h2 => by
    unfold fs
    by_cases e : k = i
    · subst e; rw [if_pos hi]
    · rw [if_neg (by rw [h k (by omega) (by omega)]; decide)]
      exact fs_eq hi n (k + 1) (fun q h3 h4 => h q (by omega) h4) (by omega) (by omega)
theorem fs_sp {P : Nat → Bool} : ∀ n k i, P i = true → k ≤ i → i < k + n → P (fs P n k) = true ∧ fs P n k < k + n
  | 0, k, i, _, h1, h2 => by omega
  | n + 1, k, i, hi, h1, h2 => by
    unfold fs
    by_cases e : P k = true
    · rw [if_pos e]; exact ⟨e, by omega⟩
    · rw [if_neg e]
      have hik : i ≠ k := fun e2 => e (e2 ▸ hi)
      have := fs_sp n (k + 1) i hi (by omega) (by omega)
      exact ⟨this.1, by omega⟩
/-- can a least way to t go on from x to q -/
noncomputable def nxq (l : LT) (h : Nat → Int) (t x q : Nat) : Bool := decide (Lr l x q ≠ 0 ∧ dst l h q t ≠ -1 ∧ Lr l x q + h q + dst l h q t = dst l h x t)
noncomputable def nx (l : LT) (h : Nat → Int) (t x : Nat) : Nat := fs (nxq l h t x) (Ln l) 0
theorem nx_ex {l : LT} {h : Nat → Int} (hW : WT l) (hH : HP l h) {x t : Nat} (hx : x < Ln l) (ht : t < Ln l) (hn : x ≠ t) (hd : dst l h x t ≠ -1) : ∃ q, q < Ln l ∧ nxq l h t x q = true := by
  rcases dst_or hW hH hx ht with ⟨e, _⟩ | ⟨⟨e, _, e3⟩, _⟩
  · exact absurd e hd
  · rcases e with e | ⟨M, e1, e2⟩
    · exact absurd e.1 hn
    · cases M with
      | nil =>
        refine ⟨t, ht, ?_⟩
        unfold nxq
        rw [dst_0 hW hH ht]
        exact decide_eq_true ⟨e1, by decide, by rw [← e2]; show Lr l x t + h t + 0 = Lr l x t + h t; omega⟩
      | cons c M =>
        have hi : ie l c M t := e1.2.2
        have hc : c < Ln l := e1.1
        refine ⟨c, hc, ?_⟩
        unfold nxq
        rcases dst_or hW hH hc ht with ⟨_, _, f⟩ | ⟨⟨f1, f2, f3⟩, f4, _⟩
        · exact absurd hi (f M)
        · have g1 := f3 M hi
          have g2 : dst l h x t = Lr l x c + h c + iw l h c M t := e2.symm
          have g3 : dst l h x t ≤ Lr l x c + h c + dst l h c t := by
            rcases f1 with f1 | ⟨N, f1, f5⟩
            · have g4 := e3 [] (show Lr l x t ≠ 0 by rw [← f1.1]; exact e1.2.1)
              have g5 : iw l h x [] t = Lr l x c + h c := by rw [f1.1]; rfl
              omega
            · have g4 := e3 (c :: N) ⟨hc, e1.2.1, f1⟩
              have g5 : iw l h x (c :: N) t = Lr l x c + h c + iw l h c N t := rfl
              omega
          exact decide_eq_true ⟨e1.2.1, by omega, by omega⟩
theorem nx_ok {l : LT} {h : Nat → Int} (hW : WT l) (hH : HP l h) {x t : Nat} (hx : x < Ln l) (ht : t < Ln l) (hn : x ≠ t) (hd : dst l h x t ≠ -1) : nx l h t x < Ln l ∧ dst l h (nx l h t x) t ≠ -1 ∧ dst l h (nx l h t x) t < dst l h x t := by
  obtain ⟨q, h1, h2⟩ := nx_ex hW hH hx ht hn hd
  have h3 := fs_sp (P := nxq l h t x) (Ln l) 0 q h2 (by omega) (by omega)
  have h4 : nxq l h t x (nx l h t x) = true := h3.1
  have h5 : nx l h t x < Ln l := by have := h3.2; unfold nx; omega
  unfold nxq at h4
  have h6 := of_decide_eq_true h4
  have h7 := ie_1 hW hx h5 h6.1
  have h8 := hH _ h5
  exact ⟨h5, h6.2.1, by omega⟩
/-- the first least way from x to t -/
noncomputable def pth (l : LT) (h : Nat → Int) (t : Nat) : Nat → Nat → List Nat
  | 0, x => [x]
  | f + 1, x => if x = t then [x] else x :: pth l h t f (nx l h t x)
noncomputable def pl (l : LT) (h : Nat → Int) (t x : Nat) : List Nat := pth l h t (dst l h x t).toNat x
theorem pth_i {l : LT} {h : Nat → Int} (hW : WT l) (hH : HP l h) {t : Nat} (ht : t < Ln l) : ∀ f g x, x < Ln l → dst l h x t ≠ -1 → (dst l h x t).toNat ≤ f → (dst l h x t).toNat ≤ g → pth l h t f x = pth l h t g x := by
  intro f
  induction f with
  | zero =>
    intro g x hx hd h1 h2
    have hxt : x = t := by
      by_cases e : x = t
      · exact e
      · have := dst_p hW hH hx ht e hd; omega
    cases g with
    | zero => rfl
    | succ g => show [x] = if x = t then [x] else _; rw [if_pos hxt]
  | succ f ih =>
    intro g x hx hd h1 h2
    by_cases hxt : x = t
    · cases g with
      | zero => show (if x = t then [x] else _) = [x]; rw [if_pos hxt]
      | succ g => show (if x = t then [x] else _) = if x = t then [x] else _; rw [if_pos hxt, if_pos hxt]
    · have h3 := dst_p hW hH hx ht hxt hd
      have h4 := nx_ok hW hH hx ht hxt hd
      cases g with
      | zero => omega
      | succ g =>
        show (if x = t then [x] else x :: pth l h t f (nx l h t x)) = if x = t then [x] else x :: pth l h t g (nx l h t x)
        rw [if_neg hxt, if_neg hxt, ih g (nx l h t x) h4.1 h4.2.1 (by omega) (by omega)]
theorem pl_t {l : LT} {h : Nat → Int} (hW : WT l) (hH : HP l h) {t : Nat} (ht : t < Ln l) : pl l h t t = [t] := by
  unfold pl
  rw [dst_0 hW hH ht]; rfl
theorem pl_s {l : LT} {h : Nat → Int} (hW : WT l) (hH : HP l h) {x t : Nat} (hx : x < Ln l) (ht : t < Ln l) (hn : x ≠ t) (hd : dst l h x t ≠ -1) : pl l h t x = x :: pl l h t (nx l h t x) := by
  have h3 := dst_p hW hH hx ht hn hd
  have h4 := nx_ok hW hH hx ht hn hd
  unfold pl
  rw [show (dst l h x t).toNat = ((dst l h x t).toNat - 1) + 1 by omega]
  show (if x = t then [x] else x :: pth l h t ((dst l h x t).toNat - 1) (nx l h t x)) = _
  rw [if_neg hn, pth_i hW hH ht ((dst l h x t).toNat - 1) (dst l h (nx l h t x) t).toNat _ h4.1 h4.2.1 (by omega) (by omega)]
/-- halts of what is kept -/
def hh (l : LT) (c : CT) (q : Nat) : Int := hlt (Lc l) ((CL c).map (Cg c q)) (nd (Lk l q))
theorem HP_hh (l : LT) (c : CT) : HP l (hh l c) := fun _ _ => hlt_rng _ _ _
/-- what is measured in a Ways -/
def WY (I : jx_I) (w : Nat) (l : LT) (h : Nat → Int) : Prop := (∀ q, q < Ln l → (I (w + 1) q).toInt = h q) ∧ ∀ a b, a < Ln l → b < Ln l → (I (w + 2) (a * 10 + b)).toInt = fd (dst l h a b)
theorem WY_of {I I' : jx_I} {w : Nat} {l : LT} {h : Nat → Int} (hY : WY I w l h) (e1 : I' (w + 1) = I (w + 1)) (e2 : I' (w + 2) = I (w + 2)) : WY I' w l h := by
  unfold WY
  rw [e1, e2]
  exact hY
theorem fd_no {x : Int} (h : -1 ≤ x ∧ x ≤ 1230) : (1000000 ≤ fd x ↔ x = -1) ∧ 0 ≤ fd x ∧ fd x ≤ 1000000 ∧ (x ≠ -1 → fd x = x) := by
  unfold fd
  split <;> omega
theorem dst_r {l : LT} {h : Nat → Int} (hW : WT l) (hH : HP l h) {a b : Nat} (ha : a < Ln l) (hb : b < Ln l) : -1 ≤ dst l h a b ∧ dst l h a b ≤ 1230 := by
  rcases dst_or hW hH ha hb with ⟨e, _⟩ | ⟨_, e⟩ <;> omega
/-- GrievingCamels$Ways.shorten -/
theorem cz_128 {V : jx_V} (hV : V.1.stackTraces = false) {X : jx_X} {R : jx_R} {I : jx_I} {a0 : Nat} {a1 : Int} {a2 : Int} {n k : Nat} {v : Nat → Nat → Int}
    (hw : BX X R a0 TWays) (h1 : a1 = (n : Int)) (hn : n ≤ 10) (h2 : a2 = (k : Int)) (hk : k < n) (hv : ∀ x y, x < n → y < n → (I (a0 + 2) (x * 10 + y)).toInt = v x y ∧ 0 ≤ v x y ∧ v x y ≤ 1000000) (hkk : v k k = 0)
    {QE : String → jx_I → Prop} : jc V 1 128 (0, 0) [.ref a0, jy a1, jy a2] X I R (fun rv I' => rv = none ∧ (∀ x y, x < n → y < n → (I' (a0 + 2) (x * 10 + y)).toInt = min (v x y) (v x k + v k y)) ∧ FR (a0 + 2) (a0 + 3) I I') QE := by
  refine wm_128 hV (by omega) (by omega)  (fun J2 J10 J73 hJJ => ?_)
  obtain ⟨hJ2, hJ10, hJ73⟩ := hJJ
  unfold wz_128
  have L2 : ∀ (n2 : Nat) (l3 : Int) (K : jx_I), n2 = ((n : Int) - l3).toNat → (∃ i : Nat, l3 = (i : Int) ∧ i ≤ n ∧ (∀ x y, x < n → y < n → (K (a0 + 2) (x * 10 + y)).toInt = if x < i then min (v x y) (v x k + v k y) else v x y) ∧ FR (a0 + 2) (a0 + 3) I K) → J2 l3 K := by
    intro n2
    induction n2 using Nat.strongRecOn with
    | ind n2 ih2 =>
    intro l3 K hn2 hI2
    obtain ⟨i, rfl, hi, hK, hF⟩ := hI2
    refine hJ2 _ _ ?_
    unfold wz_128_2
    refine ⟨by omega, ?_⟩
    refine ⟨fun hq1 => ?_, fun hq1 => ?_⟩
    · exact ⟨rfl, fun x y hx hy => by rw [hK x y hx hy, if_pos (by omega)], hF⟩
    · have L10 : ∀ (n10 : Nat) (l3 : Int) (l4 : Int) (K2 : jx_I), n10 = ((n : Int) - l4).toNat → (∃ j : Nat, l3 = (i : Int) ∧ l4 = (j : Int) ∧ i < n ∧ j ≤ n ∧ (∀ x y, x < n → y < n → (K2 (a0 + 2) (x * 10 + y)).toInt = if x < i ∨ (x = i ∧ y < j) then min (v x y) (v x k + v k y) else v x y) ∧ FR (a0 + 2) (a0 + 3) I K2) → J10 l3 l4 K2 := by
        intro n10
        induction n10 using Nat.strongRecOn with
        | ind n10 ih10 =>
        intro l3 l4 K2 hn10 hI10
        obtain ⟨j, rfl, rfl, hi, hj, hK, hF⟩ := hI10
        refine hJ10 _ _ _ ?_
        unfold wz_128_10
        refine ⟨by omega, ?_⟩
        refine ⟨fun hq2 => ?_, fun hq2 => ?_⟩
        · exact ih2 _ (by omega) _ _ rfl (⟨i + 1, by omega, by omega, fun x y hx hy => by
            rw [hK x y hx hy]
            by_cases e : x < i + 1
            · rw [if_pos e, if_pos (by omega)]
            · rw [if_neg e, if_neg (by omega)], hF⟩)
        · subst h2
          have vik := (hv i k hi hk).2
          have vkj := (hv k j hk (by omega)).2
          have vij := (hv i j hi (by omega)).2
          have hik : (K2 (a0 + 2) (i * 10 + k)).toInt = v i k := by rw [hK i k hi hk]; split <;> omega
          have hkj : (K2 (a0 + 2) (k * 10 + j)).toInt = v k j := by rw [hK k j hk (by omega)]; split <;> omega
          have hij : (K2 (a0 + 2) (i * 10 + j)).toInt = v i j := by rw [hK i j hi (by omega), if_neg (by omega)]
          refine ⟨s_Ways_0 hw, _, r_Ways_0_1 hw, _, ⟨s_Ways_2 hw, by decide⟩, ?_⟩
          try simp only [-eq_self, show ((i : Int) * 10 + (k : Int)).toNat = i * 10 + k by omega, show ((k : Int) * 10 + (j : Int)).toNat = k * 10 + j by omega, show ((i : Int) * 10 + (j : Int)).toNat = i * 10 + j by omega, hik, hkj, hij]
          refine ⟨by omega, by omega, by omega, by omega, ?_⟩
          refine ⟨fun hq3 => ?_, fun hq3 => ?_⟩
          · exact ih10 _ (by omega) _ _ _ rfl (⟨j + 1, rfl, by omega, hi, by omega, fun x y hx hy => by
              rw [hK x y hx hy]
              by_cases e : x = i ∧ y = j
              · rw [e.1, e.2, if_neg (by omega), if_pos (by omega)]; omega
              · skip
                by_cases e2 : x < i ∨ (x = i ∧ y < j)
                · rw [if_pos e2, if_pos (by omega)]
                · rw [if_neg e2, if_neg (by omega)], hF⟩)
          · refine ⟨by omega, ?_⟩
            intro I13 e_I13; subst e_I13
            refine hJ73 _ _ _ ?_
            unfold wz_128_73
            exact ih10 _ (by omega) _ _ _ rfl (⟨j + 1, rfl, by omega, hi, by omega, fun x y hx hy => by
              skip
              by_cases e : x = i ∧ y = j
              · rw [e.1, e.2, jx_u_s, jy_toInt (by omega), if_pos (by omega)]; omega
              · rw [jx_u_k _ _ _ _ (by omega), hK x y hx hy]
                by_cases e2 : x < i ∨ (x = i ∧ y < j)
                · rw [if_pos e2, if_pos (by omega)]
                · rw [if_neg e2, if_neg (by omega)], FR_u hF (by omega) (by omega)⟩)
      exact L10 _ _ _ _ rfl (⟨0, rfl, rfl, by omega, by omega, fun x y hx hy => by
        rw [hK x y hx hy]
        by_cases e : x < i
        · rw [if_pos e, if_pos (Or.inl e)]
        · rw [if_neg e, if_neg (by omega)], hF⟩)
  exact L2 _ _ _ rfl (⟨0, rfl, by omega, fun x y hx hy => by rw [if_neg (by omega)]; exact (hv x y hx hy).1, FR_refl⟩)
/-- GrievingCamels$Ways.measure -/
theorem cz_127 {V : jx_V} (hV : V.1.stackTraces = false) {X : jx_X} {R : jx_R} {I : jx_I} {a0 : Nat} {a1 : Nat} {a2 : Nat} {l : LT} {c : CT}
    (hw : BX X R a0 TWays) (hl : BX X R a1 TLand) (hs : BX X R a2 TState) (hD : LD I a1 l) (hW : WT l) (hS : SX I a2 c) (hC : WC l c) (hd : a0 + 4 ≤ a1 ∨ a1 + 11 ≤ a0) (hd2 : a0 + 4 ≤ a2 ∨ a2 + 12 ≤ a0) (hd3 : a1 + 11 ≤ a2 ∨ a2 + 12 ≤ a1)
    {QE : String → jx_I → Prop} : jc V 5 127 (0, 0) [.ref a0, .ref a1, .ref a2] X I R (fun rv I' => rv = none ∧ WY I' a0 l (hh l c) ∧ FR2 (a0 + 1) (a0 + 3) (a1 + 9) (a1 + 11) I I') QE := by
  have hW0 := hW.1
  have hW0 := hW.1
  refine wm_127 hV   (fun J2 J37 J48 J107 J122 hJJ => ?_)
  obtain ⟨hJ2, hJ37, hJ48, hJ107, hJ122⟩ := hJJ
  unfold wz_127
  have L2 : ∀ (n2 : Nat) (l3 : Int) (K : jx_I), n2 = ((Ln l : Int) - l3).toNat → (∃ i : Nat, l3 = (i : Int) ∧ i ≤ Ln l ∧ (∀ q, q < i → (K (a0 + 1) q).toInt = hh l c q) ∧ FR2 (a0 + 1) (a0 + 3) (a1 + 9) (a1 + 11) I K) → J2 l3 K := by
    intro n2
    induction n2 using Nat.strongRecOn with
    | ind n2 ih2 =>
    intro l3 K hn2 hI2
    obtain ⟨i, rfl, hi, hK, hF⟩ := hI2
    have hDK := LD_fr2 hD hF (by omega) (by omega)
    have h7 := hDK.1.1
    refine hJ2 _ _ ?_
    unfold wz_127_2
    refine ⟨s_Land_0 hl, by omega, ?_⟩
    refine ⟨fun hq1 => ?_, fun hq1 => ?_⟩
    · have L37 : ∀ (n37 : Nat) (l3 : Int) (K3 : jx_I), n37 = ((Ln l : Int) - l3).toNat → (∃ i : Nat, l3 = (i : Int) ∧ i ≤ Ln l ∧ (∀ q, q < Ln l → (K3 (a0 + 1) q).toInt = hh l c q) ∧ (∀ x y, x < Ln l → y < Ln l → x < i → (K3 (a0 + 2) (x * 10 + y)).toInt = (if x = y then 0 else if Lr l x y = 0 then 1000000 else Lr l x y + hh l c y)) ∧ FR2 (a0 + 1) (a0 + 3) (a1 + 9) (a1 + 11) I K3) → J37 l3 K3 := by
        intro n37
        induction n37 using Nat.strongRecOn with
        | ind n37 ih37 =>
        intro l3 K3 hn37 hI37
        obtain ⟨i, rfl, hi, hHa, hK, hF⟩ := hI37
        have hDK := LD_fr2 hD hF (by omega) (by omega)
        have h7 := hDK.1.1
        refine hJ37 _ _ ?_
        unfold wz_127_37
        refine ⟨s_Land_0 hl, by omega, ?_⟩
        refine ⟨fun hq2 => ?_, fun hq2 => ?_⟩
        · have L122 : ∀ (n122 : Nat) (l3 : Int) (K5 : jx_I), n122 = ((Ln l : Int) - l3).toNat → (∃ (k : Nat) (v : Nat → Nat → Int), l3 = (k : Int) ∧ k ≤ Ln l ∧ (∀ q, q < Ln l → (K5 (a0 + 1) q).toInt = hh l c q) ∧ (∀ x y, x < Ln l → y < Ln l → (K5 (a0 + 2) (x * 10 + y)).toInt = v x y) ∧ FW l (hh l c) k v ∧ FR2 (a0 + 1) (a0 + 3) (a1 + 9) (a1 + 11) I K5) → J122 l3 K5 := by
            intro n122
            induction n122 using Nat.strongRecOn with
            | ind n122 ih122 =>
            intro l3 K5 hn122 hI122
            obtain ⟨k, v, rfl, hk, hHa, hK, hFW, hF⟩ := hI122
            have hDK := LD_fr2 hD hF (by omega) (by omega)
            have h7 := hDK.1.1
            refine hJ122 _ _ ?_
            unfold wz_127_122
            refine ⟨s_Land_0 hl, by omega, ?_⟩
            refine ⟨fun hq3 => ?_, fun hq3 => ?_⟩
            · exact ⟨rfl, ⟨hHa, fun a b ha hb => by rw [hK a b ha hb]; exact FW_n hW (HP_hh l c) (by rw [show k = Ln l by omega] at hFW; exact hFW) ha hb⟩, hF⟩
            · refine ⟨s_Ways_0 hw, ?_⟩
              refine ⟨_, cz_128 (v := v) hV hw h7 hW0.1 rfl (by omega) (fun x y hx hy => ⟨hK x y hx hy, (hFW x y hx hy).2.1⟩) ((hFW k k (by omega) (by omega)).2.2.1 rfl), ?_⟩
              rintro _ I46 ⟨rfl, hv2, hF2⟩
              refine ⟨rfl, ?_⟩
              exact ih122 _ (by omega) _ _ rfl (⟨k + 1, _, by omega, by omega, fun q hq => by rw [hF2 _ (by omega)]; exact hHa q hq, hv2, FW_s hW (HP_hh l c) (by omega) hFW, FR2_l hF hF2 (by omega) (by omega)⟩)
          exact L122 _ _ _ rfl (⟨0, _, rfl, by omega, hHa, fun x y hx hy => hK x y hx hy (by omega), FW_0 hW (HP_hh l c), hF⟩)
        · have L48 : ∀ (n48 : Nat) (l3 : Int) (l4 : Int) (K4 : jx_I), n48 = ((Ln l : Int) - l4).toNat → (∃ j : Nat, l3 = (i : Int) ∧ l4 = (j : Int) ∧ i < Ln l ∧ j ≤ Ln l ∧ (∀ q, q < Ln l → (K4 (a0 + 1) q).toInt = hh l c q) ∧ (∀ x y, x < Ln l → y < Ln l → (x < i ∨ (x = i ∧ y < j)) → (K4 (a0 + 2) (x * 10 + y)).toInt = (if x = y then 0 else if Lr l x y = 0 then 1000000 else Lr l x y + hh l c y)) ∧ FR2 (a0 + 1) (a0 + 3) (a1 + 9) (a1 + 11) I K4) → J48 l3 l4 K4 := by
            intro n48
            induction n48 using Nat.strongRecOn with
            | ind n48 ih48 =>
            intro l3 l4 K4 hn48 hI48
            obtain ⟨j, rfl, rfl, hi, hj, hHa, hK, hF⟩ := hI48
            have hDK := LD_fr2 hD hF (by omega) (by omega)
            have h7 := hDK.1.1
            refine hJ48 _ _ _ ?_
            unfold wz_127_48
            refine ⟨s_Land_0 hl, by omega, ?_⟩
            refine ⟨fun hq4 => ?_, fun hq4 => ?_⟩
            · exact ih37 _ (by omega) _ _ rfl (⟨i + 1, by omega, by omega, hHa, fun x y hx hy h => hK x y hx hy (by omega), hF⟩)
            · refine ⟨_, cz_36 (p := i) (q := j) hV hl hDK hW0.1 rfl rfl hi (by omega), ?_⟩
              rintro _ I25 ⟨rfl, e9⟩; replace e9 := e9.symm; subst e9
              refine ⟨_, rfl, ?_⟩
              have hr := (hW.2.2.1 i j hi (by omega)).1
              have hr2 := HP_hh l c j (by omega)
              refine ⟨s_Ways_0 hw, _, r_Ways_0_1 hw, by omega, ?_⟩
              refine ⟨fun hq5 => ?_, fun hq5 => ?_⟩
              · refine ⟨by omega, ?_⟩
                refine ⟨fun hq6 => ?_, fun hq6 => ?_⟩
                · refine ⟨_, r_Ways_0_0 hw, _, ⟨s_Ways_1 hw, by decide⟩, ?_⟩
                  try simp only [-eq_self, Int.toNat_natCast, hHa j (by omega)]
                  refine ⟨by omega, ?_⟩
                  refine hJ107 _ _ _ _ _ _ ?_
                  unfold wz_127_107
                  refine ⟨_, ⟨s_Ways_2 hw, by decide⟩, ?_⟩
                  try simp only [-eq_self, show ((i : Int) * 10 + (j : Int)).toNat = i * 10 + j by omega]
                  refine ⟨by omega, ?_⟩
                  intro I40 e_I40; subst e_I40
                  exact ih48 _ (by omega) _ _ _ rfl (⟨j + 1, rfl, by omega, hi, by omega, fun q hq => by rw [jx_u_a _ _ _ _ (by omega)]; exact hHa q hq, fun x y hx hy hd => by
                    by_cases e : x = i ∧ y = j
                    · rw [e.1, e.2, jx_u_s, jy_toInt (by omega), if_neg (by omega), if_neg (by omega)]
                    · rw [jx_u_k _ _ _ _ (by omega)]; exact hK x y hx hy (by omega), FR2_u hF (by omega) (by omega)⟩)
                · refine hJ107 _ _ _ _ _ _ ?_
                  unfold wz_127_107
                  refine ⟨_, ⟨s_Ways_2 hw, by decide⟩, ?_⟩
                  try simp only [-eq_self, show ((i : Int) * 10 + (j : Int)).toNat = i * 10 + j by omega]
                  refine ⟨by omega, ?_⟩
                  intro I40 e_I40; subst e_I40
                  exact ih48 _ (by omega) _ _ _ rfl (⟨j + 1, rfl, by omega, hi, by omega, fun q hq => by rw [jx_u_a _ _ _ _ (by omega)]; exact hHa q hq, fun x y hx hy hd => by
                    by_cases e : x = i ∧ y = j
                    · rw [e.1, e.2, jx_u_s, jy_toInt (by omega), if_neg (by omega), if_pos (by omega)]
                    · rw [jx_u_k _ _ _ _ (by omega)]; exact hK x y hx hy (by omega), FR2_u hF (by omega) (by omega)⟩)
              · refine hJ107 _ _ _ _ _ _ ?_
                unfold wz_127_107
                refine ⟨_, ⟨s_Ways_2 hw, by decide⟩, ?_⟩
                try simp only [-eq_self, show ((i : Int) * 10 + (j : Int)).toNat = i * 10 + j by omega]
                refine ⟨by omega, ?_⟩
                intro I40 e_I40; subst e_I40
                exact ih48 _ (by omega) _ _ _ rfl (⟨j + 1, rfl, by omega, hi, by omega, fun q hq => by rw [jx_u_a _ _ _ _ (by omega)]; exact hHa q hq, fun x y hx hy hd => by
                  by_cases e : x = i ∧ y = j
                  · rw [e.1, e.2, jx_u_s, jy_toInt (by omega), if_pos (by omega)]
                  · rw [jx_u_k _ _ _ _ (by omega)]; exact hK x y hx hy (by omega), FR2_u hF (by omega) (by omega)⟩)
          exact L48 _ _ _ _ rfl (⟨0, rfl, rfl, by omega, by omega, hHa, fun x y hx hy h => hK x y hx hy (by omega), hF⟩)
      exact L37 _ _ _ rfl (⟨0, rfl, by omega, fun q hq => hK q (by omega), fun x y _ _ h => absurd h (by omega), hF⟩)
    · refine ⟨s_Ways_0 hw, _, r_Ways_0_0 hw, s_State_0 hs, _, r_State_0_1 hs, _, r_State_0_0 hs, ?_⟩
      refine ⟨_, cz_38 (p := i) hV hl hDK hW (b_State_1 hs) (b_State_5 hs) (HD_fr2 hS.1 hF (by omega) (by omega)) hC.1 (RW_fr2 hS.2.1 hF (by omega) (by omega)) (fun x hx => by have := hC.2.1.2 x hx; omega) rfl (by omega) (by omega) (by omega), ?_⟩
      rintro _ I13 ⟨rfl, hF2⟩
      refine ⟨_, rfl, ?_⟩
      have hr := hlt_rng (Lc l) ((CL c).map (Cg c i)) (nd (Lk l i))
      refine ⟨_, ⟨s_Ways_1 hw, by decide⟩, ?_⟩
      try simp only [-eq_self, Int.toNat_natCast]
      refine ⟨by omega, ?_⟩
      intro I18 e_I18; subst e_I18
      exact ih2 _ (by omega) _ _ rfl (⟨i + 1, by omega, by omega, fun q hq => by
        rcases Nat.lt_or_ge q i with h | h
        · rw [jx_u_k _ _ _ _ (by omega), hF2 _ (by omega)]; exact hK q h
        · rw [show q = i by omega, jx_u_s]; exact jy_toInt (by omega), FR2_u (FR2_r hF hF2 (by omega) (by omega)) (by omega) (by omega)⟩)
  exact L2 _ _ _ rfl (⟨0, rfl, by omega, fun q h => absurd h (by omega), FR2_refl⟩)
/-- GrievingCamels$Ways.hoursBetween -/
theorem cz_129 {V : jx_V} (hV : V.1.stackTraces = false) {X : jx_X} {R : jx_R} {I : jx_I} {a0 : Nat} {a1 : Int} {a2 : Int} {l : LT} {h : Nat → Int}
    (hw : BX X R a0 TWays) (hY : WY I a0 l h) (hW : WT l) (hH : HP l h) (h1 : 0 ≤ a1 ∧ a1 < (Ln l : Nat)) (h2 : 0 ≤ a2 ∧ a2 < (Ln l : Nat))
    {QE : String → jx_I → Prop} : jc V 1 129 (0, 0) [.ref a0, jy a1, jy a2] X I R (fun rv I' => rv = some (jy (dst l h a1.toNat a2.toNat)) ∧ I' = I) QE := by
  have hW0 := hW.1
  have hW0 := hW.1
  refine wm_129 hV (by omega) (by omega)  ?_
  unfold wz_129
  refine ⟨s_Ways_0 hw, _, r_Ways_0_1 hw, _, ⟨s_Ways_2 hw, by decide⟩, ?_⟩
  have e1 := hY.2 a1.toNat a2.toNat (by omega) (by omega)
  have e2 := fd_no (dst_r hW hH (a := a1.toNat) (b := a2.toNat) (by omega) (by omega))
  try simp only [-eq_self, show (a1 * 10 + a2).toNat = a1.toNat * 10 + a2.toNat by omega, e1]
  refine ⟨by omega, ?_⟩
  refine ⟨fun hq1 => ?_, fun hq1 => ?_⟩
  · exact ⟨by rw [e2.1.mp hq1], rfl⟩
  · exact ⟨by rw [e2.2.2.2 (fun e => hq1 (e2.1.mpr e))], rfl⟩
/-- GrievingCamels$Ways.nextOn -/
theorem cz_131 {V : jx_V} (hV : V.1.stackTraces = false) {X : jx_X} {R : jx_R} {I : jx_I} {a0 : Nat} {a1 : Nat} {a2 : Int} {a3 : Int} {l : LT} {h : Nat → Int} {x t : Nat}
    (hw : BX X R a0 TWays) (hl : BX X R a1 TLand) (hD : LD I a1 l) (hY : WY I a0 l h) (hW : WT l) (hH : HP l h) (h1 : a2 = (x : Int)) (hx : x < Ln l) (h2 : a3 = (t : Int)) (ht : t < Ln l) (hne : x ≠ t) (hds : dst l h x t ≠ -1)
    {QE : String → jx_I → Prop} : jc V 2 131 (0, 0) [.ref a0, .ref a1, jy a2, jy a3] X I R (fun rv I' => rv = some (jy (nx l h t x : Nat)) ∧ I' = I) QE := by
  have hW0 := hW.1
  have hW0 := hW.1
  refine wm_131 hV (by omega) (by omega)  (fun J3 hJJ => ?_)
  have hJ3 := hJJ
  obtain ⟨q0, hq0, hqq⟩ := nx_ex hW hH hx ht hne hds
  unfold wz_131
  have L3 : ∀ (n3 : Nat) (l4 : Int) (K : jx_I), n3 = ((Ln l : Int) - l4).toNat → (∃ i : Nat, l4 = (i : Int) ∧ i ≤ Ln l ∧ (∀ q, q < i → nxq l h t x q = false) ∧ K = I) → J3 l4 K := by
    intro n3
    induction n3 using Nat.strongRecOn with
    | ind n3 ih3 =>
    intro l4 K hn3 hI3
    obtain ⟨i, rfl, hi, hK, rfl⟩ := hI3
    have h7 := hD.1.1
    refine hJ3 _ _ ?_
    unfold wz_131_3
    refine ⟨s_Land_0 hl, by omega, ?_⟩
    refine ⟨fun hq1 => ?_, fun hq1 => ?_⟩
    · have := hK q0 (by omega)
      rw [hqq] at this
      cases this
    · refine ⟨_, cz_36 (p := x) (q := i) hV hl hD hW0.1 h1 rfl hx (by omega), ?_⟩
      rintro _ I5 ⟨rfl, e9⟩; replace e9 := e9.symm; subst e9
      refine ⟨_, rfl, ?_⟩
      subst h1
      subst h2
      have hr := (hW.2.2.1 x i hx (by omega)).1
      have hr2 := hH i (by omega)
      have e1 := hY.1 i (by omega)
      have e2 := hY.2 i t (by omega) ht
      have e3 := hY.2 x t hx ht
      have f2 := fd_no (dst_r hW hH (a := i) (b := t) (by omega) ht)
      have f3 := fd_no (dst_r hW hH hx ht)
      have f4 := f3.2.2.2 hds
      have f5 := dst_r hW hH hx ht
      refine ⟨s_Ways_0 hw, _, r_Ways_0_0 hw, _, ⟨s_Ways_1 hw, by decide⟩, by omega, _, r_Ways_0_1 hw, _, ⟨s_Ways_2 hw, by decide⟩, ?_⟩
      try simp only [-eq_self, show ((i : Int) * 10 + (t : Int)).toNat = i * 10 + t by omega, show ((x : Int) * 10 + (t : Int)).toNat = x * 10 + t by omega, Int.toNat_natCast, e1, e2, e3]
      refine ⟨by omega, by omega, ?_⟩
      refine ⟨fun hq2 => ?_, fun hq2 => ?_⟩
      · exact ih3 _ (by omega) _ _ rfl (⟨i + 1, by omega, by omega, fun q hq => by
          rcases Nat.lt_or_ge q i with h9 | h9
          · exact hK q h9
          · rw [show q = i by omega]; unfold nxq; exact decide_eq_false (fun k => k.1 (by omega)), rfl⟩)
      · refine ⟨by omega, by omega, ?_⟩
        refine ⟨fun hq3 => ?_, fun hq3 => ?_⟩
        · exact ih3 _ (by omega) _ _ rfl (⟨i + 1, by omega, by omega, fun q hq => by
            rcases Nat.lt_or_ge q i with h9 | h9
            · exact hK q h9
            · rw [show q = i by omega]; unfold nxq; exact decide_eq_false (fun k => by have := f2.2.2.2 k.2.1; omega), rfl⟩)
        · have hi9 : dst l h i t ≠ -1 := fun e => by have := f2.1.mpr e; omega
          have hn9 : nxq l h t x i = true := by unfold nxq; exact decide_eq_true ⟨by omega, hi9, by have := f2.2.2.2 hi9; omega⟩
          refine ⟨?_, rfl⟩
          unfold nx
          rw [fs_eq hn9 (Ln l) 0 (fun q _ hq => hK q hq) (by omega) (by omega)]
  exact L3 _ _ _ rfl (⟨0, rfl, by omega, fun q h => absurd h (by omega), rfl⟩)
/-- GrievingCamels$Ways.follow -/
theorem cz_130 {V : jx_V} (hV : V.1.stackTraces = false) {X : jx_X} {R : jx_R} {I : jx_I} {a0 : Nat} {a1 : Nat} {a2 : Int} {a3 : Int} {a4 : Nat} {l : LT} {h : Nat → Int} {x t : Nat}
    (hw : BX X R a0 TWays) (hl : BX X R a1 TLand) (hr : BX X R a4 TRow) (hD : LD I a1 l) (hY : WY I a0 l h) (hW : WT l) (hH : HP l h) (h1 : a2 = (x : Int)) (hx : x < Ln l) (h2 : a3 = (t : Int)) (ht : t < Ln l) (hds : dst l h x t ≠ -1) (d4 : a0 + 4 ≤ a4 ∨ a4 + 2 ≤ a0) (d5 : a1 + 11 ≤ a4 ∨ a4 + 2 ≤ a1)
    {QE : String → jx_I → Prop} : jc V 3 130 (0, 0) [.ref a0, .ref a1, jy a2, jy a3, .ref a4] X I R (fun rv I' => rv = none ∧ RW I' a4 (pl l h t x) ∧ FR a4 (a4 + 2) I I') QE := by
  have hW0 := hW.1
  have hW0 := hW.1
  refine wm_130 hV (by omega) (by omega)  (fun J17 J57 hJJ => ?_)
  obtain ⟨hJ17, hJ57⟩ := hJJ
  unfold wz_130
  refine ⟨s_Row_0 hr, ?_⟩
  refine ⟨_, cz_68 hV hr, ?_⟩
  rintro _ I4 ⟨rfl, hE⟩
  refine ⟨rfl, ?_⟩
  subst hE
  refine ⟨_, cz_69 hV hr (RW_empty I a4) (by decide) h1 (by omega), ?_⟩
  rintro _ I8 ⟨rfl, hR1, hF1⟩
  refine ⟨rfl, ?_⟩
  have L17 : ∀ (n17 : Nat) (l5 : Int) (l6 : Int) (K : jx_I), n17 = (10 - l6).toNat → (∃ (P : List Nat) (y : Nat), l5 = (y : Int) ∧ l6 = (P.length : Int) ∧ RW K a4 (P ++ [y]) ∧ pl l h t x = P ++ pl l h t y ∧ y < Ln l ∧ dst l h y t ≠ -1 ∧ (∀ z ∈ P, z < Ln l ∧ dst l h y t < dst l h z t) ∧ P.Nodup ∧ FR a4 (a4 + 2) I K) → J17 l5 l6 K := by
    intro n17
    induction n17 using Nat.strongRecOn with
    | ind n17 ih17 =>
    intro l5 l6 K hn17 hI17
    obtain ⟨P, y, rfl, rfl, hR, hpl, hy, hdy, hz, hnd, hF⟩ := hI17
    have hnd2 : (y :: P).Nodup := List.nodup_cons.mpr ⟨fun e => by have := (hz y e).2; omega, hnd⟩
    have hlen := nd_len (Ln l) (y :: P) hnd2 (fun z hz9 => by
      rcases List.mem_cons.mp hz9 with e | e
      · rw [e]; exact hy
      · exact (hz z e).1)
    simp only [List.length_cons] at hlen
    refine hJ17 _ _ _ ?_
    unfold wz_130_17
    refine ⟨by omega, ?_⟩
    refine ⟨fun hq1 => ?_, fun hq1 => ?_⟩
    · omega
    · refine ⟨by omega, ?_⟩
      refine ⟨fun hq2 => ?_, fun hq2 => ?_⟩
      · rw [show y = t by omega, pl_t hW hH ht] at hpl
        rw [show y = t by omega] at hR
        exact ⟨rfl, by rw [hpl]; exact hR, hF⟩
      · refine ⟨fun hq3 => ?_, fun hq3 => ?_⟩
        · omega
        · refine ⟨s_Ways_0 hw, ?_⟩
          have hyt : y ≠ t := by omega
          subst h2
          have hnx := nx_ok hW hH hy ht hyt hdy
          refine ⟨_, cz_131 (x := y) hV hw hl (LD_fr hD hF (by omega)) (WY_of hY (hF _ (by omega)) (hF _ (by omega))) hW hH rfl hy rfl ht hyt hdy, ?_⟩
          rintro _ I15 ⟨rfl, e9⟩; replace e9 := e9.symm; subst e9
          refine ⟨_, rfl, ?_⟩
          refine ⟨by omega, ?_⟩
          refine ⟨fun hq4 => ?_, fun hq4 => ?_⟩
          · omega
          · refine ⟨s_Row_0 hr, ?_⟩
            refine ⟨_, cz_69 hV hr hR (by rw [List.length_append, List.length_singleton]; omega) rfl (by omega), ?_⟩
            rintro _ I21 ⟨rfl, hR2, hF2⟩
            refine ⟨rfl, ?_⟩
            refine hJ57 _ _ _ ?_
            unfold wz_130_57
            exact ih17 _ (by omega) _ _ _ rfl (⟨P ++ [y], nx l h t y, rfl, by rw [List.length_append, List.length_singleton]; omega, hR2, by rw [hpl, pl_s hW hH hy ht hyt hdy, List.append_assoc]; rfl, hnx.1, hnx.2.1, fun z hz9 => by
              rcases List.mem_append.mp hz9 with e | e
              · have := hz z e; exact ⟨this.1, by omega⟩
              · rw [List.mem_singleton.mp e]; exact ⟨hy, hnx.2.2⟩, nd_snoc.mpr ⟨hnd, fun e => by have := (hz y e).2; omega⟩, FR_to hF hF2 (by omega) (by omega)⟩)
  exact L17 _ _ _ _ rfl (⟨[], x, h1, rfl, hR1, rfl, hx, hds, (fun z hz => by cases hz), List.nodup_nil, FR_to (FR_empty I a4 1 _ (by omega)) hF1 (by omega) (by omega)⟩)
