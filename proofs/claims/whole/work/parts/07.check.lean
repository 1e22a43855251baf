/-! words -/
def jx_walk : List Cond → List (Nat × Cond) → Bool
  | _, [] => true
  | [], _ :: _ => false
  | w :: l, q :: r => match q.1 with
    | 0 => decide (w = q.2) && jx_walk l r
    | g + 1 => jx_walk l ((g, q.2) :: r)
theorem jx_walk_ok : ∀ (l : List Cond) (r : List (Nat × Cond)), jx_walk l r = true → ∀ q ∈ r, q.2 ∈ l := by
  intro l
  induction l with
  | nil =>
    intro r h q hq
    cases r with
    | nil => cases hq
    | cons a r => exact absurd h (by simp [jx_walk])
  | cons w l ih =>
    intro r h q hq
    cases r with
    | nil => cases hq
    | cons a r =>
      obtain ⟨n, c⟩ := a
      cases n with
      | zero =>
        simp only [jx_walk, Bool.and_eq_true, decide_eq_true_eq] at h
        rcases List.mem_cons.mp hq with rfl | hq
        · exact h.1 ▸ List.mem_cons_self
        · exact List.mem_cons_of_mem _ (ih r h.2 q hq)
      | succ g =>
        have h' : jx_walk l ((g, c) :: r) = true := h
        rcases List.mem_cons.mp hq with rfl | hq
        · exact List.mem_cons_of_mem _ (ih _ h' (g, c) List.mem_cons_self)
        · exact List.mem_cons_of_mem _ (ih _ h' q (List.mem_cons_of_mem _ hq))
def jx_T (ci : Nat) : u_T := (vwCl.getD ci ("", TX0, 0)).2.1
def jx_wflt (e : Nat × Nat × Nat × Nat × Nat) : Cond := .fieldLink (jx_cn e.1) e.2.1 (jx_T e.2.2.1 e.2.2.2.1).1 (jx_T e.2.2.1 e.2.2.2.1).2.1 (jx_T e.2.2.1 e.2.2.2.1).2.2.1
theorem jx_flt_ok : jx_walk lw_tbl (jx_flt.map (fun e => (e.2.2.2.2, jx_wflt e))) = true := by decide +kernel
theorem jx_lay_ok : jx_walk lw_tbl (jx_lay.map (fun e => (e.2.2, u_lay (jx_cn e.1) (jx_T e.1) e.2.1))) = true := by decide +kernel
theorem jx_ins_ok : jx_walk lw_tbl (jx_ins.map (fun e => (e.2, .instantiable (jx_cn e.1) (jx_fn e.1)))) = true := by decide +kernel
theorem jx_mlt_ok : jx_walk lw_tbl (jx_mlt.map (fun e => (e.2.2.2, .methodLink (jx_cn e.1) e.2.1 (jx_nm e.2.2.1)))) = true := by decide +kernel
theorem jx_mln_ok : jx_walk lw_tbl (jx_mln.map (fun e => (e.2.2.2, .methodLinkNest (jx_cn e.1) e.2.1 (jx_nm e.2.2.1) RX11))) = true := by decide +kernel
theorem jx_oi_ok : jx_walk lw_tbl (jx_oi.map (fun e => (e.2.2, .methodLink (jx_cn e.1) e.2.1 objectInit))) = true := by decide +kernel
theorem jx_ac_ok : jx_walk lw_tbl (jx_ac.map (fun e => (e.2.2, .methodLink (jx_cn e.1) e.2.1 arraycopyName))) = true := by decide +kernel
theorem jx_cst_ok : jx_walk lw_tbl (jx_cst.map (fun e => (e.2.2.2, .constant (jx_cn e.1) e.2.1 e.2.2.1))) = true := by decide +kernel
theorem jx_lcst_ok : jx_walk lw_tbl (jx_lcst.map (fun e => (e.2.2.2, .constantLong (jx_cn e.1) e.2.1 e.2.2.1))) = true := by decide +kernel
theorem jx_str_ok : jx_walk lw_tbl (jx_str.map (fun e => (e.2.2.2, .stringRef (jx_cn e.1) e.2.1 e.2.2.1))) = true := by decide +kernel
theorem jx_clt_ok : jx_walk lw_tbl (jx_clt.map (fun e => (e.2.2.2, .classLink (jx_cn e.1) e.2.1 (jx_cn e.2.2.1)))) = true := by decide +kernel
theorem jx_ini_ok : jx_walk lw_tbl (jx_ini.map (fun e => (e.2, .initialized (jx_cn e.1)))) = true := by decide +kernel
theorem jx_w0_ok : jx_walk lw_tbl (jx_w0.map (fun e => (e.2, .instanceMethod (jx_nm e.1)))) = true := by decide +kernel
theorem jx_w1_ok : jx_walk lw_tbl (jx_w1.map (fun e => (e.2, .static (jx_nm e.1)))) = true := by decide +kernel
theorem jx_wk_ok : jx_cw.all (fun w => match w with | .code .. => true | .codeWith _ _ _ _ hh => !hh.isEmpty | _ => false) = true ∧ jx_cw.length = 377 ∧ jx_ows.length = 377 := by decide +kernel
theorem jx_w3_ok : jx_walk lw_tbl (jx_w3.map (fun e => (e.2, .selects (jx_cn (jx_ow e.1)) (jx_nm e.1) (jx_nm e.1)))) = true := by decide +kernel
theorem jx_cls_ok : (List.range 377).all (fun z => decide ((jx_nm z).cls = jx_cn (jx_ow z)) && Nat.ble (jx_ow z) 18) = true := by decide +kernel
theorem jx_na_ok_0 : (List.range' 0 64).all (fun z => decide ((parseMethodDescriptor (jx_nm z).desc).map (fun d => d.parameters.length) = some (jx_na z))) = true := by decide +kernel
theorem jx_na_ok_1 : (List.range' 64 64).all (fun z => decide ((parseMethodDescriptor (jx_nm z).desc).map (fun d => d.parameters.length) = some (jx_na z))) = true := by decide +kernel
theorem jx_na_ok_2 : (List.range' 128 64).all (fun z => decide ((parseMethodDescriptor (jx_nm z).desc).map (fun d => d.parameters.length) = some (jx_na z))) = true := by decide +kernel
theorem jx_na_ok_3 : (List.range' 192 64).all (fun z => decide ((parseMethodDescriptor (jx_nm z).desc).map (fun d => d.parameters.length) = some (jx_na z))) = true := by decide +kernel
theorem jx_na_ok_4 : (List.range' 256 64).all (fun z => decide ((parseMethodDescriptor (jx_nm z).desc).map (fun d => d.parameters.length) = some (jx_na z))) = true := by decide +kernel
theorem jx_na_ok_5 : (List.range' 320 57).all (fun z => decide ((parseMethodDescriptor (jx_nm z).desc).map (fun d => d.parameters.length) = some (jx_na z))) = true := by decide +kernel

