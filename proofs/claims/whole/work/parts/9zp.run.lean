/-! ===== the state of a run of calls, on both sides ===== -/
/-- land and what is kept; what was fed, the fault's place, the plan; images; refusals by reason -/
abbrev YZ : Type := (LT × CT) × (List Int × Int × PLT) × List CT × (Nat → Int)
abbrev yz_l (s : YZ) : LT := s.1.1
abbrev yz_c (s : YZ) : CT := s.1.2
abbrev yz_b (s : YZ) : List Int := s.2.1.1
abbrev yz_f (s : YZ) : Int := s.2.1.2.1
abbrev yz_p (s : YZ) : PLT := s.2.1.2.2
abbrev yz_i (s : YZ) : List CT := s.2.2.1
abbrev yz_r (s : YZ) : Nat → Int := s.2.2.2
/-- other griefs, journeys, lines .. are kept -/
def yzC (s : YZ) (c : CT) : YZ := ((s.1.1, c), s.2)
/-- a refusal is noted -/
def yzR (s : YZ) (k : Nat) : YZ := (s.1, s.2.1, s.2.2.1, fun j => if j = k then w32 (s.2.2.2 j + 1) else s.2.2.2 j)
/-- a state in order -/
def ZG (s : YZ) : Prop := WT (yz_l s) ∧ WC (yz_l s) (yz_c s) ∧ WP (yz_l s) (yz_p s) ∧ (yz_b s).length ≤ 600 ∧ (yz_i s).length ≤ 3 ∧ ∀ e ∈ yz_i s, WC (yz_l s) e
theorem ZG_C {s : YZ} {c : CT} (h : ZG s) (hC : WC (yz_l s) c) : ZG (yzC s c) := ⟨h.1, hC, h.2.2⟩
theorem ZG_R {s : YZ} {k : Nat} (h : ZG s) : ZG (yzR s k) := h
theorem yz_k {s : YZ} {k : Nat} {e : CT} (hg : ZG s) (he : (yz_i s)[k]? = some e) : k < 3 := by
  have h1 : k < (yz_i s).length := gi_lt he
  have h2 := hg.2.2.2.2.1
  omega
/-- the class holds a state -/
def CI (X : jx_X) (R : jx_R) (I : jx_I) (b : Nat) (s : YZ) : Prop := ∃ ld l2 y y2, GX X R I b ld (yz_l s) (yz_c s) ∧ LDs R b ld l2 ∧ PYs R b y y2 ∧ PY R I b y (yz_p s) ∧ TPB I b (yz_b s) ∧ (I (b + 1) 8).toInt = yz_f s ∧ EV I b (yz_l s) (yz_c s) ∧ ((I b 15).toInt = ((yz_i s).length : Int) ∧ ∀ (k : Nat) (e : CT), (yz_i s)[k]? = some e → SX I (b + (111 + 12 * k)) e) ∧ ∀ k, k < 4 → (I (b + 3) k).toInt = yz_r s k
/-- the reference holds a state -/
def MI (X : jx_X) (R : jx_R) (I : jx_I) (m : Nat) (s : YZ) : Prop := MX X R m ∧ MSX I m (yz_l s) (yz_c s) ∧ MP I m (yz_p s) ∧ ((I m 1).toInt = ((yz_b s).length : Int) ∧ ∀ (k : Nat) (x : Int), (yz_b s)[k]? = some x → (I (m + 1) k).toInt = x) ∧ (I m 3).toInt = yz_f s ∧ ((I m 40).toInt = ((yz_i s).length : Int) ∧ ∀ (k : Nat) (e : CT), (yz_i s)[k]? = some e → KI I (m + 1341 + k) (yz_l s) e) ∧ ∀ k, k < 4 → (I (m + 2) k).toInt = yz_r s k
/-- nothing outside n objects from b on changes -/
def FB (b n : Nat) (I I' : jx_I) (R R' : jx_R) : Prop := ∀ q, (q < b ∨ b + n ≤ q) → I' q = I q ∧ R' q = R q
theorem GX_o {X : jx_X} {R : jx_R} {I I' : jx_I} {b ld : Nat} {l : LT} {c c' : CT} (h : GX X R I b ld l c) (hS : SX I' (b + 4) c') (hC : WC l c') (e23 : I' (b + 23) 0 = I (b + 23) 0) (eL : ∀ q, b + 36 ≤ q → q < b + 58 → (q < b + 45 ∨ b + 47 ≤ q) → (q < b + 56 ∨ b + 58 ≤ q) → I' q = I q) : GX X R I' b ld l c' := by
  have h1 := h.2.1.2
  exact ⟨h.1, h.2.1, LD_of h.2.2.1 (fun q h2 h3 => eL q (by omega) (by omega) (by omega) (by omega)), h.2.2.2.1, hS, hC, by rw [e23]; exact h.2.2.2.2.2.2⟩
theorem exs_N {l : LT} {c c' : CT} (hN : CN c' = CN c) (n w : Nat) (s : ES) : ∀ t, exs l c' n w t s = exs l c n w t s
  | 0 => rfl
  | t + 1 => by
    show stp l c' n (w + t) (exs l c' n w t s) = stp l c n (w + t) (exs l c n w t s)
    rw [exs_N hN n w s t]
    unfold stp aok
    rw [hN]
theorem exr_N {l : LT} {c c' : CT} (hN : CN c' = CN c) : exr l c' = exr l c := exs_N hN _ _ _ _
theorem EV_N {I : jx_I} {b : Nat} {l : LT} {c c' : CT} (h : EV I b l c) (hN : CN c' = CN c) : EV I b l c' := by
  unfold EV
  rw [exr_N hN]
  exact h
theorem EV_fr {I I' : jx_I} {b : Nat} {l : LT} {c : CT} (h : EV I b l c) (e : I' (b + 89) = I (b + 89)) (e3 : I' (b + 89 + 3) = I (b + 89 + 3)) : EV I' b l c := ⟨fun h6 => by
  rw [e] at h6
  exact ⟨ESX_of (h.1 h6).1 e, by rw [e]; exact (h.1 h6).2⟩, GU_of h.2 e3⟩
/-- a stale explainer -/
theorem EV_6 {I I' : jx_I} {b : Nat} {l l' : LT} {c c' : CT} (h : EV I b l c) (e6 : (I' (b + 89) 6).toInt = 1) (e3 : I' (b + 89 + 3) = I (b + 89 + 3)) : EV I' b l' c' := ⟨fun h6 => by omega, GU_of h.2 e3⟩
theorem CI_G {X : jx_X} {R R' : jx_R} {I I' : jx_I} {b : Nat} {s : YZ} {c' : CT} {B' : List Int} {f' : Int} {i' : List CT} {r' : Nat → Int} (h : CI X R I b s) (hS : SX I' (b + 4) c') (hC : WC (yz_l s) c') (hE : EV I' b (yz_l s) c') (hR : BX X R' b TGC ∧ R' b = R b)
    (hT : TPB I' b B') (hF : (I' (b + 1) 8).toInt = f') (hI : (I' b 15).toInt = (i'.length : Int) ∧ ∀ (k : Nat) (e : CT), i'[k]? = some e → SX I' (b + (111 + 12 * k)) e) (hr : ∀ k, k < 4 → (I' (b + 3) k).toInt = r' k)
    (e23 : I' (b + 23) 0 = I (b + 23) 0) (eL : ∀ q, b + 36 ≤ q → q < b + 82 → (q < b + 45 ∨ b + 47 ≤ q) → (q < b + 56 ∨ b + 58 ≤ q) → I' q = I q) : CI X R' I' b ((s.1.1, c'), (B', f', s.2.1.2.2), i', r') := by
  obtain ⟨ld, l2, y, y2, hG, hL, hYs, hY, _, _, _, _, _⟩ := h
  have hG' := GX_o hG hS hC e23 (fun q a b c d => eL q a (by omega) c d)
  have hy2 := hY.2.1
  have ek : ∀ q, y ≤ q → q < y + 12 → I' q = I q := fun q h1 h2 => eL q (by omega) (by omega) (by omega) (by omega)
  refine ⟨ld, l2, y, y2, ⟨hR.1, ⟨by rw [hR.2]; exact hG'.2.1.1, hG'.2.1.2⟩, hG'.2.2⟩, ⟨by rw [hR.2]; exact hL.1, hL.2⟩, ⟨by rw [hR.2]; exact hYs.1, by rw [hR.2]; exact hYs.2.1, hYs.2.2⟩, ⟨by rw [hR.2]; exact hY.1, hy2, CPS_of hY.2.2.1 ek, CPV_of hY.2.2.2.1 ek, ?_⟩, hT, hF, hE, hI, hr⟩
  rw [ek (y + 3) (by omega) (by omega)]
  exact hY.2.2.2.2
/-- .. tape, images and refusals as they were -/
theorem CI_g {X : jx_X} {R R' : jx_R} {I I' : jx_I} {b : Nat} {s : YZ} {c' : CT} (h : CI X R I b s) (hg : ZG s) (hS : SX I' (b + 4) c') (hC : WC (yz_l s) c') (hE : EV I' b (yz_l s) c') (hR : BX X R' b TGC ∧ R' b = R b)
    (e0 : I' b = I b) (e1 : I' (b + 1) = I (b + 1)) (e2 : I' (b + 2) = I (b + 2)) (e3 : I' (b + 3) = I (b + 3)) (e23 : I' (b + 23) 0 = I (b + 23) 0) (eL : ∀ q, b + 36 ≤ q → (q < b + 82 ∨ (b + 111 ≤ q ∧ q < b + 147)) → (q < b + 45 ∨ b + 47 ≤ q) → (q < b + 56 ∨ b + 58 ≤ q) → I' q = I q) : CI X R' I' b (yzC s c') := by
  have hh := h
  obtain ⟨ld, l2, y, y2, hG, hL, hYs, hY, hT, hF, _, hI, hr⟩ := hh
  refine CI_G h hS hC hE hR ⟨by rw [e1]; exact hT.1, hT.2.1, by rw [e2]; exact hT.2.2⟩ (by rw [e1]; exact hF) ⟨by rw [e0]; exact hI.1, fun k e he => ?_⟩ (by rw [e3]; exact hr) e23 (fun q a b c d => eL q a (by omega) c d)
  have hk : k < (yz_i s).length := gi_lt he
  have h3 := hg.2.2.2.2.1
  exact SX_of (hI.2 k e he) (fun q h1 h2 => eL q (by omega) (by omega) (by omega) (by omega))
/-- what is tried changes, references of x -/
theorem CI_x {X : jx_X} {R R' : jx_R} {I I' : jx_I} {b : Nat} {s : YZ} (h : CI X R I b s) (hg : ZG s) (hf : FS b I I') (hR : BX X R' b TGC ∧ R' b = R b) : CI X R' I' b s := by
  have hh := h
  obtain ⟨ld, l2, y, y2, hG, hL, hYs, hY, hT, hF, hE, hI, hr⟩ := hh
  exact CI_g (c' := yz_c s) h hg (SX_of hG.2.2.2.2.1 (fun q h1 h2 => hf.1 q (by omega) (by omega) (by omega) (by omega))) hG.2.2.2.2.2.1 (EV_fr hE (hf.1 _ (by omega) (by omega) (by omega) (by omega)) (hf.1 _ (by omega) (by omega) (by omega) (by omega))) hR
    (hf.1 _ (by omega) (by omega) (by omega) (by omega)) (hf.1 _ (by omega) (by omega) (by omega) (by omega)) (hf.1 _ (by omega) (by omega) (by omega) (by omega)) (hf.1 _ (by omega) (by omega) (by omega) (by omega)) hf.2 (fun q h1 h2 h3 h4 => hf.1 q (by omega) (by omega) (by omega) (by omega))
theorem CI_b {X : jx_X} {R : jx_R} {I : jx_I} {b : Nat} {s : YZ} (h : CI X R I b s) : BX X R b TGC := by
  obtain ⟨ld, l2, y, y2, hG, _⟩ := h
  exact hG.1
theorem CI_s {X : jx_X} {R : jx_R} {I I' : jx_I} {b : Nat} {s : YZ} (h : CI X R I b s) (hg : ZG s) (hf : FS b I I') : CI X R I' b s := CI_x h hg hf ⟨CI_b h, rfl⟩
theorem RF_q {x : Nat} {S : List Nat} {R R' : jx_R} (e : RF x S R R') {q : Nat} (hq : q ≠ x) : R' q = R q := funext fun k => e q k (fun c => hq c.1)
theorem CI_24 {X : jx_X} {R R' : jx_R} {I I' : jx_I} {b : Nat} {s : YZ} (h : CI X R I b s) (hg : ZG s) (hf : FS b I I') (e : RF (b + 82) [2, 3] R R') : CI X R' I' b s := by
  have hh := h
  obtain ⟨ld, l2, y, y2, hG, _⟩ := hh
  exact CI_x h hg hf ⟨(GX_24 hG e).1, RF_q e (by omega)⟩
/-- the explainer may change -/
theorem CI_35 {X : jx_X} {R R' : jx_R} {I I' : jx_I} {b : Nat} {s : YZ} (h : CI X R I b s) (hg : ZG s) (hE : EV I' b (yz_l s) (yz_c s)) (hf : ∀ q, (q < b + 89 ∨ b + 111 ≤ q) → (q < b + 45 ∨ b + 47 ≤ q) → (q < b + 56 ∨ b + 58 ≤ q) → I' q = I q) (e : RF (b + 89) [3] R R') : CI X R' I' b s := by
  have hh := h
  obtain ⟨ld, l2, y, y2, hG, hL, hYs, hY, hT, hF, _, hI, hr⟩ := hh
  exact CI_g (c' := yz_c s) h hg (SX_of hG.2.2.2.2.1 (fun q h1 h2 => hf q (by omega) (by omega) (by omega))) hG.2.2.2.2.2.1 hE ⟨(GX_35 hG e).1, RF_q e (by omega)⟩
    (hf _ (by omega) (by omega) (by omega)) (hf _ (by omega) (by omega) (by omega)) (hf _ (by omega) (by omega) (by omega)) (hf _ (by omega) (by omega) (by omega)) (by rw [hf _ (by omega) (by omega) (by omega)]) (fun q h1 h2 h3 h4 => hf q (by omega) (by omega) (by omega))
/-- griefs, the row, the journey change -/
theorem CI_m {X : jx_X} {R : jx_R} {I I' : jx_I} {b : Nat} {s : YZ} {c' : CT} (h : CI X R I b s) (hg : ZG s) (hS : SX I' (b + 4) c') (hf : FG b I I') (hC : WC (yz_l s) c') (hN : CN c' = CN (yz_c s)) : CI X R I' b (yzC s c') := by
  have hh := h
  obtain ⟨ld, l2, y, y2, hG, hL, hYs, hY, hT, hF, hE, hI, hr⟩ := hh
  exact CI_g h hg hS hC (EV_N (EV_fr hE (hf.1 _ (by omega) (by omega) (by omega) (by omega) (by omega)) (hf.1 _ (by omega) (by omega) (by omega) (by omega) (by omega))) hN) ⟨hG.1, rfl⟩
    (hf.1 _ (by omega) (by omega) (by omega) (by omega) (by omega)) (hf.1 _ (by omega) (by omega) (by omega) (by omega) (by omega)) (hf.1 _ (by omega) (by omega) (by omega) (by omega) (by omega)) (hf.1 _ (by omega) (by omega) (by omega) (by omega) (by omega)) hf.2 (fun q h1 h2 h3 h4 => hf.1 q (by omega) (by omega) (by omega) (by omega) (by omega))
theorem rfs_o {I : jx_I} {b k q : Nat} (h : q ≠ b + 3) : rfs I b k q = I q := jx_u_r _ _ _ h
theorem CI_rfs {X : jx_X} {R : jx_R} {I : jx_I} {b k : Nat} {s : YZ} (h : CI X R I b s) (hg : ZG s) : CI X R (rfs I b k) b (yzR s k) := by
  have hh := h
  obtain ⟨ld, l2, y, y2, hG, hL, hYs, hY, hT, hF, hE, hI, hr⟩ := hh
  refine CI_G (c' := yz_c s) (B' := yz_b s) (f' := yz_f s) (i' := yz_i s) h (SX_of hG.2.2.2.2.1 (fun q h1 h2 => rfs_o (by omega))) hG.2.2.2.2.2.1 (EV_fr hE (rfs_o (by omega)) (rfs_o (by omega))) ⟨hG.1, rfl⟩ ⟨by rw [rfs_o (by omega)]; exact hT.1, hT.2.1, by rw [rfs_o (by omega)]; exact hT.2.2⟩ (by rw [rfs_o (by omega)]; exact hF)
    ⟨by rw [rfs_o (by omega)]; exact hI.1, fun j e he => SX_of (hI.2 j e he) (fun q h1 h2 => rfs_o (by omega))⟩ (fun j hj => ?_) (by rw [rfs_o (by omega)]) (fun q h1 h2 h3 h4 => rfs_o (by omega))
  unfold rfs
  by_cases e : j = k
  · subst e
    rw [jx_u_s, if_pos rfl]
    show (Int32.ofInt ((I (b + 3) j).toInt + 1)).toInt = w32 (yz_r s j + 1)
    rw [← hr j hj]
    rfl
  · rw [jx_u_k _ _ _ _ e, if_neg e]
    exact hr j hj
/-! what a caller may know of a method: less than its contract -/
def jp (V : jx_V) (d z : Nat) (b : Nat × Nat) (As : List Value) (X : jx_X) (I : jx_I) (R : jx_R) (Q : Option Value → jx_I → jx_R → Prop) (QE : String → jx_I → jx_R → Prop) : Prop := ∃ (Q0 : Option Value → jx_I → jx_R → Prop) (QE0 : String → jx_I → jx_R → Prop), jd V d z b As X I R Q0 QE0 ∧ (∀ rv I' R', Q0 rv I' R' → Q rv I' R') ∧ ∀ E I' R', QE0 E I' R' → QE E I' R'
theorem jp_c {V : jx_V} {d z : Nat} {b : Nat × Nat} {As : List Value} {X : jx_X} {I : jx_I} {R : jx_R} {Q0 : Option Value → jx_I → Prop} {QE0 : String → jx_I → Prop} {Q : Option Value → jx_I → jx_R → Prop} {QE : String → jx_I → jx_R → Prop} (h : jc V d z b As X I R Q0 QE0) (h1 : ∀ rv I', Q0 rv I' → Q rv I' R) (h2 : ∀ E I', QE0 E I' → QE E I' R) : jp V d z b As X I R Q QE :=
  ⟨fun rv I' R' => R' = R ∧ Q0 rv I', fun E I' R' => R' = R ∧ QE0 E I', h, fun rv I' R' q => by rw [q.1]; exact h1 rv I' q.2, fun E I' R' q => by rw [q.1]; exact h2 E I' q.2⟩
theorem jp_d {V : jx_V} {d z : Nat} {b : Nat × Nat} {As : List Value} {X : jx_X} {I : jx_I} {R : jx_R} {Q0 : Option Value → jx_I → jx_R → Prop} {QE0 : String → jx_I → jx_R → Prop} {Q : Option Value → jx_I → jx_R → Prop} {QE : String → jx_I → jx_R → Prop} (h : jd V d z b As X I R Q0 QE0) (h1 : ∀ rv I' R', Q0 rv I' R' → Q rv I' R') (h2 : ∀ E I' R', QE0 E I' R' → QE E I' R') : jp V d z b As X I R Q QE := ⟨Q0, QE0, h, h1, h2⟩
/-- of a refusal only the reason -/
def ec (e : Option (Nat × Int)) : Option Nat := e.map Prod.fst
theorem ec_w {P : Prop} [Decidable P] {k : Nat} {w : Int} {e : Option (Nat × Int)} : ec (nzw P k w e) = nz P k (ec e) := by
  unfold nzw nz
  split <;> rfl
theorem ec_0 : ec none = none := rfl
theorem nz_and {P Q : Prop} [hP : Decidable P] [hQ : Decidable Q] {hd : Decidable (P ∧ Q)} {k : Nat} {e : Option Nat} : @nz (P ∧ Q) hd k e = nz P k (nz Q k e) := by
  unfold nz
  by_cases h : P
  · by_cases h2 : Q
    · rw [if_pos ⟨h, h2⟩, if_pos h, if_pos h2]
    · rw [if_neg (fun c => h2 c.2), if_pos h, if_neg h2]
  · rw [if_neg (fun c => h c.1), if_neg h]
theorem ec_n {e : Option (Nat × Int)} {x : Option Nat} (h : ec e = x) (hx : x = none) : e = none := by
  rw [hx] at h
  cases e with
  | none => rfl
  | some v => cases h
theorem ec_k {e : Option (Nat × Int)} {x : Option Nat} {k : Nat} (h : ec e = x) (hx : x = some k) : ∃ w, e = some (k, w) := by
  rw [hx] at h
  cases e with
  | none => cases h
  | some v => exact ⟨v.2, by cases h; rfl⟩
theorem nzw_i {P : Prop} [Decidable P] {k : Nat} {w : Int} {e : Option (Nat × Int)} {M : List (Nat × Int)} (hm : (k, w) ∈ M) (h : ∀ k' w', e = some (k', w') → (k', w') ∈ M) : ∀ k' w', nzw P k w e = some (k', w') → (k', w') ∈ M := by
  intro k' w' h2
  unfold nzw at h2
  split at h2
  · exact h _ _ h2
  · cases h2; exact hm
/-- what the class answers -/
def KQ (X : jx_X) (R0 : jx_R) (I0 : jx_I) (b : Nat) (e : Option (Nat × Int)) (v : Value) (s : YZ) : Option Value → jx_I → jx_R → Prop := fun rv I' R' => e = none ∧ rv = some v ∧ CI X R' I' b s ∧ ZG s ∧ FB b 147 I0 I' R0 R'
def KE (X : jx_X) (R0 : jx_R) (I0 : jx_I) (b : Nat) (e : Option (Nat × Int)) (s : YZ) : String → jx_I → jx_R → Prop := fun E I' R' => ∃ k w, e = some (k, w) ∧ E = (jx_exe k).1 ∧ CI X R' I' b (yzR s k) ∧ FB b 147 I0 I' R0 R'
theorem KE_r {X : jx_X} {R : jx_R} {I I' : jx_I} {b k : Nat} {e : Option (Nat × Int)} {x : Option Nat} {E : String} {s : YZ} (h : CI X R I b s) (hg : ZG s) (he : ec e = x) (hq : x = some k ∧ E = (jx_exe k).1 ∧ I' = rfs I b k) : KE X R I b e s E I' R := by
  obtain ⟨w, hw⟩ := ec_k he hq.1
  obtain ⟨_, hE, rfl⟩ := hq
  exact ⟨k, w, hw, hE, CI_rfs h hg, fun q hq => ⟨rfs_o (by omega), rfl⟩⟩
theorem FB_s {b : Nat} {I I' : jx_I} {R : jx_R} (h : FS b I I') : FB b 147 I I' R R := fun q hq => ⟨h.1 q (by omega) (by omega) (by omega) (by omega), rfl⟩
theorem FB_g {b : Nat} {I I' : jx_I} {R : jx_R} (h : FG b I I') : FB b 147 I I' R R := fun q hq => ⟨h.1 q (by omega) (by omega) (by omega) (by omega) (by omega), rfl⟩
theorem FB_24 {b : Nat} {I I' : jx_I} {R R' : jx_R} (h : FS b I I') (e : RF (b + 82) [2, 3] R R') : FB b 147 I I' R R' := fun q hq => ⟨h.1 q (by omega) (by omega) (by omega) (by omega), RF_q e (by omega)⟩
/-- what the reference answers (ty: what is known of the answer of a refused call) -/
def MQA (X : jx_X) (R0 : jx_R) (I0 : jx_I) (m : Nat) (ty : Option Value → Prop) (e : Option (Nat × Int)) (v : Value) (s s' : YZ) : Option Value → jx_I → jx_R → Prop := fun rv I' R' => R' = R0 ∧ (∀ q, q < m → I' q = I0 q) ∧ ((e = none ∧ rv = some v ∧ MI X R0 I' m s' ∧ (I' m 0).toInt = 0) ∨ ∃ k w, e = some (k, w) ∧ ty rv ∧ MI X R0 I' m (yzR s k) ∧ (I' m 0).toInt = w32 w)
def ty_i (rv : Option Value) : Prop := ∃ x : Int, rv = some (jy x)
def ty_l (rv : Option Value) : Prop := ∃ x : Int64, rv = some (.long x)
theorem MSX_b {I I' : jx_I} {m : Nat} {l : LT} {c : CT} (h : MSX I m l c) (hW : WT l) (ek : ∀ k ∈ [23, 36, 37, 38, 39], I' m k = I m k) (ea : ∀ q, (q = m + 4 ∨ q = m + 6 ∨ q = m + 8 ∨ q = m + 10 ∨ q = m + 12 ∨ (m + 25 ≤ q ∧ q < m + 35) ∨ (m + 45 ≤ q ∧ q < m + 665) ∨ (m + 1288 ≤ q ∧ q < m + 1305) ∨ (m + 1306 ≤ q ∧ q < m + 1315) ∨ (m + 1316 ≤ q ∧ q < m + 1340) ∨ q = m + 1344 ∨ q = m + 1345) → I' q = I q) : MSX I' m l c := by
  have hn := hW.1
  have hc6 := hW.2.2.2.2.2.1
  have hD := h.1
  have h9 := h.2.2.2.1.2.1
  have h24 := h.2.2.2.2.2.1
  refine ⟨⟨?_, ?_, ?_, ?_, ?_, ?_⟩, ⟨?_, ?_, ?_⟩, ?_, ⟨?_, h9, ?_⟩, ⟨?_, h24, ?_⟩⟩
  · rw [ea (m + 4) (by omega)]; exact hD.1
  · intro p hp; rw [ea (m + 6) (by omega)]; exact hD.2.1 p hp
  · intro p q hp hq; rw [ea (m + 25 + p) (by omega)]; exact hD.2.2.1 p q hp hq
  · intro c hc; rw [ea (m + 8) (by omega), ea (m + 10) (by omega), ea (m + 12) (by omega)]; exact hD.2.2.2.1 c hc
  · rw [ek 23 (by decide)]; exact hD.2.2.2.2.1
  · intro k c hk
    have hk2 := gi_lt hk
    rw [ea (m + 45 + k) (by omega)]; exact hD.2.2.2.2.2 k c hk
  · exact ML_of h.2.1.1 (ek 36 (by decide)) (ea _ (by omega))
  · exact MH_of h.2.1.2.1 (fun c hc => ea _ (by omega))
  · exact MH_of h.2.1.2.2 (fun c hc => ea _ (by omega))
  · exact ML_of h.2.2.1 (ek 37 (by decide)) (ea _ (by omega))
  · rw [ek 38 (by decide)]; exact h.2.2.2.1.1
  · intro k e hk
    have hk2 := gi_lt hk
    rw [ea (m + 1306 + k) (by omega)]; exact h.2.2.2.1.2.2 k e hk
  · rw [ek 39 (by decide)]; exact h.2.2.2.2.1
  · intro k e hk p q hp hq
    have hk2 := gi_lt hk
    rw [ea (m + 1316 + k) (by omega)]; exact h.2.2.2.2.2.2 k e hk p q hp hq
theorem MI_G {X : jx_X} {R : jx_R} {I I' : jx_I} {m : Nat} {s : YZ} {c' : CT} {B' : List Int} {f' : Int} {i' : List CT} {r' : Nat → Int} (h : MI X R I m s) (hX : MSX I' m (yz_l s) c') (h56 : I' m 56 = I m 56) (hB : (I' m 1).toInt = (B'.length : Int) ∧ ∀ (k : Nat) (x : Int), B'[k]? = some x → (I' (m + 1) k).toInt = x) (hF : (I' m 3).toInt = f')
    (hI : (I' m 40).toInt = (i'.length : Int) ∧ ∀ (k : Nat) (e : CT), i'[k]? = some e → KI I' (m + 1341 + k) (yz_l s) e) (hr : ∀ k, k < 4 → (I' (m + 2) k).toInt = r' k) (e4 : ∀ q, m + 1371 ≤ q → I' q = I q) : MI X R I' m ((s.1.1, c'), (B', f', s.2.1.2.2), i', r') := by
  obtain ⟨hM, _, hP, _, _, _, _⟩ := h
  refine ⟨hM, hX, ⟨by rw [h56]; exact hP.1, fun k e he => by rw [e4 _ (by omega)]; exact hP.2.1 k e he, fun k e he => by rw [e4 _ (by omega)]; exact hP.2.2.1 k e he, fun k e he => by rw [e4 _ (by omega)]; exact hP.2.2.2 k e he⟩, hB, hF, hI, hr⟩
theorem MI_g {X : jx_X} {R : jx_R} {I I' : jx_I} {m : Nat} {s : YZ} {c' : CT} (h : MI X R I m s) (hg : ZG s) (hX : MSX I' m (yz_l s) c') (hk : ∀ k ∈ [1, 3, 40, 56], I' m k = I m k) (e1 : I' (m + 1) = I (m + 1)) (e2 : I' (m + 2) = I (m + 2)) (e3 : ∀ q, m + 1341 ≤ q → q < m + 1344 → I' q = I q) (e4 : ∀ q, m + 1371 ≤ q → I' q = I q) : MI X R I' m (yzC s c') := by
  have hh := h
  obtain ⟨hM, _, hP, hB, hF, hI, hr⟩ := hh
  have h3 := hg.2.2.2.2.1
  exact MI_G h hX (hk 56 (by decide)) ⟨by rw [hk 1 (by decide)]; exact hB.1, by rw [e1]; exact hB.2⟩ (by rw [hk 3 (by decide)]; exact hF) ⟨by rw [hk 40 (by decide)]; exact hI.1, fun k e he => KI_fr (hI.2 k e he) (e3 _ (by omega) (by have h9 := yz_k hg he; omega))⟩ (by rw [e2]; exact hr) e4
theorem MI_c {X : jx_X} {R : jx_R} {I I' : jx_I} {m : Nat} {s : YZ} {c' : CT} (h : MI X R I m s) (hg : ZG s) (hX : MSX I' m (yz_l s) c') (hf : FQ m I I') : MI X R I' m (yzC s c') :=
  MI_g h hg hX (fun k hk => hf.2 k ((show ∀ k ∈ [1, 3, 40, 56], k ∉ SCQ by decide) k hk)) (hf.1 _ (by omega) (by omega)) (hf.1 _ (by omega) (by omega)) (fun q h1 h2 => hf.1 q (by omega) (by omega)) (fun q h1 => hf.1 q (by omega) (by omega))
theorem MI_q {X : jx_X} {R : jx_R} {I I' : jx_I} {m : Nat} {s : YZ} (h : MI X R I m s) (hg : ZG s) (hf : FK m SCR I I') : MI X R I' m s := MI_c (c' := yz_c s) h hg (MSX_s h.2.1 hf hg.1) (FQ_k hf)
theorem MI_r {X : jx_X} {R : jx_R} {I : jx_I} {m k : Nat} {w : Int} {s : YZ} (h : MI X R I m s) (hg : ZG s) : MI X R (RM (jx_u I m 0 (Int32.ofInt 0)) m k w) m (yzR s k) ∧ (RM (jx_u I m 0 (Int32.ofInt 0)) m k w m 0).toInt = w32 w ∧ ∀ q, q < m → RM (jx_u I m 0 (Int32.ofInt 0)) m k w q = I q := by
  obtain ⟨I', hI'⟩ : ∃ I', I' = RM (jx_u I m 0 (Int32.ofInt 0)) m k w := ⟨_, rfl⟩
  rw [← hI']
  have ea : ∀ q, q ≠ m → q ≠ m + 2 → I' q = I q := fun q h1 h2 => by rw [hI']; unfold RM; rw [jx_u_r _ _ _ h2, jx_u_r _ _ _ h1, jx_u_r _ _ _ h1]
  have ek : ∀ k, k ≠ 0 → I' m k = I m k := fun j h1 => by rw [hI']; unfold RM; rw [jx_u_a _ _ _ _ (by omega), jx_u_k _ _ _ _ h1, jx_u_k _ _ _ _ h1]
  have e2 : ∀ j, I' (m + 2) j = if j = k then Int32.ofInt ((I (m + 2) j).toInt + 1) else I (m + 2) j := fun j => by
    rw [hI']
    unfold RM
    by_cases e : j = k
    · rw [e, jx_u_s, if_pos rfl, jx_u_a _ _ _ _ (by omega)]
    · rw [jx_u_k _ _ _ _ e, if_neg e, jx_u_a _ _ _ _ (by omega), jx_u_a _ _ _ _ (by omega)]
  have hh := h
  obtain ⟨hM, hX, hP, hB, hF, hI, hr⟩ := hh
  have h3 := hg.2.2.2.2.1
  have hXb : MSX I' m (yz_l s) (yz_c s) := MSX_b hX hg.1 (fun k hk => ek k ((show ∀ k ∈ [23, 36, 37, 38, 39], k ≠ 0 by decide) k hk)) (fun q h1 => ea q (by omega) (by omega))
  refine ⟨?_, ?_, fun q hq => ea q (by omega) (by omega)⟩
  · refine MI_G (B' := yz_b s) (f' := yz_f s) (i' := yz_i s) h hXb (ek 56 (by decide)) ⟨by rw [ek 1 (by decide)]; exact hB.1, by rw [ea (m + 1) (by omega) (by omega)]; exact hB.2⟩ (by rw [ek 3 (by decide)]; exact hF) ⟨by rw [ek 40 (by decide)]; exact hI.1, fun j e he => KI_fr (hI.2 j e he) (ea _ (by omega) (by omega))⟩ (fun j hj => ?_) (fun q h1 => ea q (by omega) (by omega))
    rw [e2 j]
    split
    · rw [hr j hj]; rfl
    · exact hr j hj
  · rw [hI']
    unfold RM
    rw [jx_u_a _ _ _ _ (by omega), jx_u_s]
    rfl
/-- simple questions to the reference -/
theorem MQ_s {X : jx_X} {R : jx_R} {I I' : jx_I} {m : Nat} {ty : Option Value → Prop} {e : Option (Nat × Int)} {v : Value} {s : YZ} {rv : Option Value} (h : MI X R I m s) (hg : ZG s) (hq : (e = none ∧ rv = some v ∧ (I' m 0).toInt = 0 ∧ FK m SCR I I') ∨ (∃ k w, e = some (k, w) ∧ I' = RM (jx_u I m 0 (Int32.ofInt 0)) m k w ∧ ty rv)) : MQA X R I m ty e v s s rv I' R := by
  rcases hq with ⟨h1, h2, h3, h4⟩ | ⟨k, w, h1, rfl, h3⟩
  · exact ⟨rfl, fun q hq => h4.1 q (by omega) (by omega) (by omega), Or.inl ⟨h1, h2, MI_q h hg h4, h3⟩⟩
  · have hr := MI_r (k := k) (w := w) h hg
    exact ⟨rfl, hr.2.2, Or.inr ⟨k, w, h1, h3, hr.1, hr.2.1⟩⟩
/-- .. that change what is kept -/
theorem MQ_c {X : jx_X} {R : jx_R} {I I' : jx_I} {m : Nat} {ty : Option Value → Prop} {e : Option (Nat × Int)} {v : Value} {s : YZ} {c' : CT} {rv : Option Value} (h : MI X R I m s) (hg : ZG s) (hq : (e = none ∧ rv = some v ∧ (I' m 0).toInt = 0 ∧ MSX I' m (yz_l s) c' ∧ FQ m I I') ∨ (∃ k w, e = some (k, w) ∧ I' = RM (jx_u I m 0 (Int32.ofInt 0)) m k w ∧ ty rv)) : MQA X R I m ty e v s (yzC s c') rv I' R := by
  rcases hq with ⟨h1, h2, h3, h4, h5⟩ | ⟨k, w, h1, rfl, h3⟩
  · exact ⟨rfl, fun q hq => h5.1 q (by omega) (by omega), Or.inl ⟨h1, h2, MI_c h hg h4 h5, h3⟩⟩
  · have hr := MI_r (k := k) (w := w) h hg
    exact ⟨rfl, hr.2.2, Or.inr ⟨k, w, h1, h3, hr.1, hr.2.1⟩⟩
theorem nz_s {P : Prop} [Decidable P] {k : Nat} {e : Option Nat} (h : nz P k e = none) : P ∧ e = none := by
  unfold nz at h
  split at h
  · next hp => exact ⟨hp, h⟩
  · cases h
noncomputable def cif {α : Type} (P : Prop) (a b : α) : α := @ite α P (Classical.propDecidable P) a b
theorem cif_t {α : Type} {P : Prop} {a b : α} (h : P) : cif P a b = a := @if_pos P (Classical.propDecidable P) h α a b
theorem cif_f {α : Type} {P : Prop} {a b : α} (h : ¬ P) : cif P a b = b := @if_neg P (Classical.propDecidable P) h α a b
theorem GD_gu {g d : GT} {p c : Nat} {v w : Int} (h : GD g d) (hv : 0 ≤ v ∧ v ≤ 20) (hw : 0 ≤ w ∧ w ≤ 20) : GD (gu g p c v) (gu d p c w) := by
  intro q e hq he
  have h1 := h q e hq he
  refine ⟨?_, ?_⟩
  · show 0 ≤ (if q = p ∧ e = c then v else g q e) ∧ (if q = p ∧ e = c then v else g q e) ≤ 20
    split
    · exact hv
    · exact h1.1
  · show 0 ≤ (if q = p ∧ e = c then w else d q e) ∧ (if q = p ∧ e = c then w else d q e) ≤ 20
    split
    · exact hw
    · exact h1.2
/-! the two sides let each other be -/
theorem CI_fr {X X' : jx_X} {R R' : jx_R} {I I' : jx_I} {b : Nat} {s : YZ} (h : CI X R I b s) (hg : ZG s) (hX : ∀ q, b ≤ q → q < b + 147 → X'.2.1 q = X.2.1 q) (e : ∀ q, b ≤ q → q < b + 147 → I' q = I q) (eR : ∀ q, b ≤ q → q < b + 147 → R' q = R q) : CI X' R' I' b s := by
  have hh := h
  obtain ⟨ld, l2, y, y2, hG, hL, hYs, hY, hT, hF, hE, hI, hr⟩ := hh
  have hB : BX X R' b TGC := fun k en hk => by
    have hk2 : k < 147 := gi_lt hk
    exact ⟨(hG.1 k en hk).1, fun p hp => by rw [eR _ (by omega) (by omega)]; exact (hG.1 k en hk).2 p hp⟩
  have h1 : CI X R' I' b s := CI_g (c' := yz_c s) h hg (SX_of hG.2.2.2.2.1 (fun q h1 h2 => e q (by omega) (by omega))) hG.2.2.2.2.2.1 (EV_fr hE (e _ (by omega) (by omega)) (e _ (by omega) (by omega))) ⟨hB, eR _ (by omega) (by omega)⟩
    (e _ (by omega) (by omega)) (e _ (by omega) (by omega)) (e _ (by omega) (by omega)) (e _ (by omega) (by omega)) (by rw [e _ (by omega) (by omega)]) (fun q h1 h2 h3 h4 => e q (by omega) (by omega))
  obtain ⟨ld, l2, y, y2, hG, hL, hYs, hY, hT, hF, hE, hI, hr⟩ := h1
  have hB2 : BX X' R' b TGC := fun k en hk => by
    have hk2 : k < 147 := gi_lt hk
    refine ⟨?_, (hG.1 k en hk).2⟩
    rw [hX _ (by omega) (by omega)]
    exact (hG.1 k en hk).1
  exact ⟨ld, l2, y, y2, ⟨hB2, hG.2⟩, hL, hYs, hY, hT, hF, hE, hI, hr⟩
theorem MXa_lt : ∀ e ∈ MXa, e.1 < 2177 := by decide
theorem MXg_lt : ∀ e ∈ MXg, e.1 + 1 + e.2.1 ≤ 2177 := by decide
theorem MI_fr {X X' : jx_X} {R R' : jx_R} {I I' : jx_I} {m : Nat} {s : YZ} (h : MI X R I m s) (hg : ZG s) (hX : ∀ q, m ≤ q → q < m + 2177 → X'.2.1 q = X.2.1 q) (e : ∀ q, m ≤ q → q < m + 2177 → I' q = I q) (eR : ∀ q, m ≤ q → q < m + 2177 → R' q = R q) : MI X' R' I' m s := by
  obtain ⟨hM, hM2, hP, hB, hF, hI, hr⟩ := h
  have h3 := hg.2.2.2.2.1
  have hwp := hg.2.2.1.1
  have em := e m (by omega) (by omega)
  refine ⟨⟨by rw [hX _ (by omega) (by omega)]; exact hM.1, fun en hn => by rw [eR _ (by omega) (by omega)]; exact hM.2.1 en hn, fun en hn => by have := MXa_lt en hn; rw [hX _ (by omega) (by omega)]; exact hM.2.2.1 en hn, fun en hn => ?_⟩, MSX_b hM2 hg.1 (fun k _ => by rw [em]) (fun q h1 => e q (by omega) (by omega)), ?_, ⟨by rw [em]; exact hB.1, by rw [e _ (by omega) (by omega)]; exact hB.2⟩, by rw [em]; exact hF, ⟨by rw [em]; exact hI.1, fun k c he => KI_fr (hI.2 k c he) (e _ (by omega) (by have h9 := yz_k hg he; omega))⟩, by rw [e _ (by omega) (by omega)]; exact hr⟩
  · have h2 := hM.2.2.2 en hn
    have h4 := MXg_lt en hn
    exact ⟨by rw [hX _ (by omega) (by omega)]; exact h2.1, fun i hi => ⟨by rw [eR _ (by omega) (by omega)]; exact (h2.2 i hi).1, by rw [hX _ (by omega) (by omega)]; exact (h2.2 i hi).2⟩⟩
  · exact ⟨by rw [em]; exact hP.1, fun k c he => by have := gi_lt he; rw [e _ (by omega) (by omega)]; exact hP.2.1 k c he, fun k c he => by have := gi_lt he; rw [e _ (by omega) (by omega)]; exact hP.2.2.1 k c he, fun k c he => by have := gi_lt he; rw [e _ (by omega) (by omega)]; exact hP.2.2.2 k c he⟩
