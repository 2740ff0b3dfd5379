/-! ===== the memory behind a throw: what lies below cell 160 is as it was ===== -/
theorem zl_RF_lt : (zx_RF.all fun q => decide (q.1 < 160)) = true := by decide +kernel
section ZTL
variable {I : Nat → Nat → Int32} {L : Nat → Nat → Int64} {Y : zx_Y}
theorem zl_th_lay (hY : zx_lay Y) : zx_lay (zx_th (I, L, Y)).2.2 := by
  have h1 : 160 ≤ Y.2.2.2.1 := hY.1
  refine ⟨Nat.le_succ_of_le h1, fun i hi => ?_, fun i h0 hi => ?_, fun j q hq => ?_⟩
  · show zx_u1 Y.2.1 Y.2.2.2.1 99 i = _
    unfold zx_u1
    rw [if_neg (by omega)]
    exact hY.2.1 i hi
  · show zx_u1 Y.2.2.1 Y.2.2.2.1 0 i = _
    unfold zx_u1
    rw [if_neg (by omega)]
    exact hY.2.2.1 i h0 hi
  · have hlt := List.all_eq_true.mp zl_RF_lt q (List.mem_of_getElem? hq)
    simp only [decide_eq_true_eq] at hlt
    show zx_ur Y.1 Y.2.2.2.1 (fun _ => none) q.1 q.2.1 = _
    unfold zx_ur
    rw [if_neg (by omega)]
    exact hY.2.2.2 j q hq
theorem zl_th_I {i : Nat} (h : i < Y.2.2.2.1) : (zx_th (I, L, Y)).1 i = I i := by
  show zx_ur I Y.2.2.2.1 (fun _ => 0) i = _
  unfold zx_ur
  rw [if_neg (by omega)]
theorem zl_th_L {i : Nat} (h : i < Y.2.2.2.1) : (zx_th (I, L, Y)).2.1 i = L i := by
  show zx_ur L Y.2.2.2.1 (fun _ => 0) i = _
  unfold zx_ur
  rw [if_neg (by omega)]
theorem zl_th_Y {i : Nat} (h : i < Y.2.2.2.1) : (zx_th (I, L, Y)).2.2.1 i = Y.1 i := by
  show zx_ur Y.1 Y.2.2.2.1 (fun _ => none) i = _
  unfold zx_ur
  rw [if_neg (by omega)]
theorem zl_th_N : (zx_th (I, L, Y)).2.2.2.2.2.1 = Y.2.2.2.1 + 1 := rfl
theorem zl_th_Z : (zx_th (I, L, Y)).2.2.2.2.2.2 = Y.2.2.2.2 + 6 := rfl
end ZTL
