/-! ===== fields and arrays ===== -/
theorem zx_cl_at {a : Nat} (h : a < 13) : zx_cl[a]? = some (zx_C a, zx_T a, zx_N a) := by
  match a, h with
  | 0, _ | 1, _ | 2, _ | 3, _ | 4, _ | 5, _ | 6, _ | 7, _ | 8, _ | 9, _ | 10, _ | 11, _ | 12, _ => rfl
set_option maxRecDepth 100000 in
theorem zx_lay_all : ((List.range 13).all fun a => (u_ws (zx_C a) (zx_T a) (zx_N a)).all fun w => decide (w ∈ lw_tbl) && goodWord w) = true := by decide +kernel
theorem zx_lays_in {a : Nat} (h : a < 13) : ∀ w ∈ u_ws (zx_C a) (zx_T a) (zx_N a), w ∈ zx_good := by
  intro w hw
  have h1 := List.all_eq_true.mp (List.all_eq_true.mp zx_lay_all a (List.mem_range.mpr h)) w hw
  simp only [Bool.and_eq_true, decide_eq_true_eq] at h1
  exact List.mem_filter.mpr h1
theorem zx_ty_all : ((List.range 13).all fun a => (List.range (zx_N a)).all fun k => decide (parseFieldDescriptor (zx_T a k).2.2.1 = some (zx_ty a k))) = true := by decide +kernel
theorem zx_ty_ok {a : Nat} (h : a < 13) : ∀ k, k < zx_N a → parseFieldDescriptor (zx_T a k).2.2.1 = some (zx_ty a k) := fun k hk =>
  of_decide_eq_true (List.all_eq_true.mp (List.all_eq_true.mp zx_ty_all a (List.mem_range.mpr h)) k (List.mem_range.mpr hk))
theorem zx_nm_all : ((List.range 13).all fun a => (List.range (zx_N a)).all fun x => (List.range (zx_N a)).all fun y => decide (x = y ∨ (zx_T a x).2.1 ≠ (zx_T a y).2.1)) = true := by decide +kernel
theorem zx_nm_ok {a : Nat} (h : a < 13) : ∀ x, x < zx_N a → ∀ y, y < zx_N a → x ≠ y → (zx_T a x).2.1 ≠ (zx_T a y).2.1 := fun x hx y hy hne =>
  (of_decide_eq_true (List.all_eq_true.mp (List.all_eq_true.mp (List.all_eq_true.mp zx_nm_all a (List.mem_range.mpr h)) x (List.mem_range.mpr hx)) y (List.mem_range.mpr hy))).resolve_left hne
theorem zx_nf_all : ((List.range 13).all fun a => (List.range (zx_N a)).all fun k => decide (zx_ty a k ≠ .float ∧ zx_ty a k ≠ .double)) = true := by decide +kernel
theorem zx_nfl {a : Nat} (h : a < 13) {k : Nat} (hk : k < zx_N a) : zx_ty a k ≠ .float ∧ zx_ty a k ≠ .double :=
  of_decide_eq_true (List.all_eq_true.mp (List.all_eq_true.mp zx_nf_all a (List.mem_range.mpr h)) k (List.mem_range.mpr hk))
