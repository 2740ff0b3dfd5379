/-! ===== new cells ===== -/
section ZN
variable {l : Launch} {E : zx_E} {d k pc pc1 len p0 a b : Nat} {v0 : Int32} {w0 : Int64} {ls : List (Option Value)} {st st1 : List Value} {M M1 : zx_M} {Qo : Option Value → zx_M → Prop}
/-- a step that makes cells -/
theorem zx_Zn (hn : zx_n M ≤ zx_n M1) (hs : zx_sl M ≤ zx_sl M1)
    (hW : ∀ (p : Program) (e : Env) (R : Room) (s : State) (m : MethodId) (args : Array Value) (below : List Frame) (meth : Method) (c : Code), zx_F E d k p R s m args meth c →
      ∀ (Q : State → Prop) (H : Heap) (locs : List Loc) (cells slots : Nat) (la : Array Slot), cells + (zx_n M1 - zx_n M) ≤ R.cells → slots + (zx_sl M1 - zx_sl M) ≤ R.slots → zx_R E M s H → zx_L E (zx_mL k) ls la → zx_B E locs →
      (∀ (H1 : Heap) (locs1 : List Loc) (la1 : Array Slot), zx_R E M1 s H1 → zx_L E (zx_mL k) ls la1 → zx_B E locs1 → W p l e R s m args below meth c H1 locs1 (cells + (zx_n M1 - zx_n M)) (slots + (zx_sl M1 - zx_sl M)) Q (F0 m pc1 la1 (st1.map (zx_v E)))) →
      W p l e R s m args below meth c H locs cells slots Q (F0 m pc la (st.map (zx_v E))))
    (hz : zx_To l E d k pc1 ls st1 M1 Qo) : zx_To l E d k pc ls st M Qo := by
  obtain ⟨r, M', hq, ho, h1, h2, h3⟩ := hz
  refine ⟨r, M', hq, ho, by omega, by omega, fun p e R s m args below meth c hF Q CF SF hC hS hret H locs cells slots la hR hL hB e1 e2 => ?_⟩
  refine hW p e R s m args below meth c hF Q H locs cells slots la (by omega) (by omega) hR hL hB (fun H1 locs1 la1 hR1 hL1 hB1 => ?_)
  exact h3 p e R s m args below meth c hF Q CF SF hC hS hret H1 locs1 _ _ la1 hR1 hL1 hB1 (by omega) (by omega)
theorem zx_nw_n {kd ln z : Nat} : zx_n (zx_nw M kd ln z) - zx_n M = 1 := by show zx_n M + 1 - zx_n M = 1; omega
theorem zx_nw_s {kd ln z : Nat} : zx_sl (zx_nw M kd ln z) - zx_sl M = z := by show zx_sl M + z - zx_sl M = z; omega
theorem zx_nw_cv {kd ln z t j : Nat} : zx_cv (zx_nw M kd ln z) t (zx_n M) j = (match t with
    | 0 => .int 0
    | 1 => .long 0
    | _ => .null) := by
  unfold zx_cv
  split <;> simp [zx_nw, zx_ur, va_rf]
theorem zx_newarray_ok {t : ArrayType} {n : Int32} (hc : zx_chk k (pc, len, .newarray t, v0, w0, p0, a, b) = true) (hn : ¬ n < 0) (hN : n.toNatClampNeg ≤ 65536)
    (hz : zx_To l E d k (pc + len) ls (.ref (zx_n M) :: st) (zx_nw M a n.toNatClampNeg n.toNatClampNeg) Qo) : zx_To l E d k pc ls (.int n :: st) M Qo := by
  obtain ⟨hd, hl⟩ := zx_chk_dec hc
  have ho := zx_chk_opr hc
  simp only [zx_opr, Bool.and_eq_true, decide_eq_true_eq] at ho
  obtain ⟨⟨ht, ha, ha2⟩, hw⟩ := ho
  rcases hl with hl | hl <;> first | (cases hl; done) | skip
  rw [hl] at hd hz
  refine zx_Zn (M1 := zx_nw M a n.toNatClampNeg n.toNatClampNeg) (Nat.le_succ _) (Nat.le_add_right _ _) (fun p e R s m args below meth c hF Q H locs cells slots la hC hS hR hL hB kk => ?_) hz
  rw [zx_nw_n] at hC kk
  rw [zx_nw_s] at hS kk
  obtain ⟨hx, hb, -, hown, hts, hK, -⟩ := hF
  have hA := zx_arr hK ha (by omega)
  refine va_newaK hx hb (by rw [ht]; exact hts _ (zx_w_mem hw)) rfl hd rfl hn rfl ?_ hC hS rfl fun H' cA e1 z1 o1 hAr hNm => ?_
  · rw [ht]
    rcases (show a = 20 ∨ a = 21 ∨ a = 22 ∨ a = 23 by omega) with rfl | rfl | rfl | rfl <;> simp only [zx_at, componentBytes] <;> omega
  · have hcA : cA = E.2.2 a := by
      have h2 := hA.2
      rw [ht] at hNm
      rcases (show a = 20 ∨ a = 21 ∨ a = 22 ∨ a = 23 by omega) with rfl | rfl | rfl | rfl <;> exact Option.some.inj (hNm.symm.trans h2)
    subst hcA
    have key := kk H' locs la (hR.push z1 (fun q hq => o1 q hq) ⟨fun hlt => ?_, fun g1 g2 => ?_⟩) hL hB
    · rw [hR.at]
      exact key
    · simp [zx_kd, zx_nw, zx_u1] at hlt; omega
    · rw [← hR.at, e1]
      have hk : zx_kd (zx_nw M a n.toNatClampNeg n.toNatClampNeg) (zx_n M) = a := by simp [zx_kd, zx_nw, zx_u1]
      have hln : zx_ln (zx_nw M a n.toNatClampNeg n.toNatClampNeg) (zx_n M) = n.toNatClampNeg := by simp [zx_ln, zx_nw, zx_u1]
      rw [hk, hln]
      congr 2
      funext j
      rw [zx_nw_cv, ht]
      rcases (show a = 20 ∨ a = 21 ∨ a = 22 ∨ a = 23 by omega) with rfl | rfl | rfl | rfl <;> rfl
theorem zx_new_all : ((List.range 13).all fun a => decide (Jvm.Cond.instantiable (zx_C a) (zx_N a) ∈ lw_tbl ∧ Jvm.Cond.initialized (zx_C a) ∈ lw_tbl) && goodWord (.instantiable (zx_C a) (zx_N a)) && goodWord (.initialized (zx_C a))) = true := by decide +kernel
theorem zx_new_ok {idx : Nat} (hc : zx_chk k (pc, len, .new idx, v0, w0, p0, a, b) = true) (h99 : ¬ a = 99)
    (hz : zx_To l E d k (pc + len) ls (.ref (zx_n M) :: st) (zx_nw M a 0 (zx_N a)) Qo) : zx_To l E d k pc ls st M Qo := by
  obtain ⟨hd, hl⟩ := zx_chk_dec hc
  have ho := zx_chk_opr hc
  simp only [zx_opr, Bool.and_eq_true, decide_eq_true_eq, Bool.or_eq_true] at ho
  obtain ⟨ha, hw⟩ := ho.resolve_left h99
  rcases hl with hl | hl <;> first | (cases hl; done) | skip
  rw [hl] at hd hz
  have h0 := List.all_eq_true.mp zx_new_all a (List.mem_range.mpr ha)
  simp only [Bool.and_eq_true, decide_eq_true_eq] at h0
  obtain ⟨⟨⟨m1, m2⟩, g1⟩, g2⟩ := h0
  refine zx_Zn (M1 := zx_nw M a 0 (zx_N a)) (Nat.le_succ _) (Nat.le_add_right _ _) (fun p e R s m args below meth c hF Q H locs cells slots la hC hS hR hL hB kk => ?_) hz
  rw [zx_nw_n] at hC kk
  rw [zx_nw_s] at hS kk
  obtain ⟨hx, hb, -, hown, hts, hK, -⟩ := hF
  have hKn := hK.1.1 a _ (zx_cl_at ha)
  refine W.newcK hx hb hown (hts _ (zx_w_mem hw)) (hts _ (List.mem_filter.mpr ⟨m1, g1⟩)) (hts _ (List.mem_filter.mpr ⟨m2, g2⟩)) rfl hd hC hS hKn.2.1 rfl fun H1 kC hkC e1 z1 o1 => ?_
  have key := kk H1 locs la (hR.push z1 (fun q hq => o1 q hq) ⟨fun hlt => ?_, fun g1 g2 => ?_⟩) hL hB
  · have e : H.size = zx_rho E (zx_n M) := hR.at
    rw [e]
    exact key
  · have hk : zx_kd (zx_nw M a 0 (zx_N a)) (zx_n M) = a := by simp [zx_kd, zx_nw, zx_u1]
    rw [hk, ← hR.at]
    refine (u_born (zx_ty a) hts (zx_lays_in ha) hKn hkC e1 (zx_ty_ok ha)).to (fun j hj => ?_)
    rw [zx_nw_cv]
    have hnf := zx_nfl ha hj
    generalize zx_ty a j = ty at hnf ⊢
    cases ty <;> first | rfl | (exact absurd rfl hnf.1) | (exact absurd rfl hnf.2)
  · simp [zx_kd, zx_nw, zx_u1] at g1; omega
theorem zx_over {U : State} (hK : zx_K E U) {ty : FieldType} (h : Jvm.Cond.arrayOver ty ∈ lw_tbl) (ht : ty.isReference = true) : va_Nw (.arrayOver ty) U := hK.2 _ (List.mem_filter.mpr ⟨h, by cases ty <;> first | rfl | cases ht⟩)
theorem zx_over_all : Jvm.Cond.arrayOver (.object "NamesThatShrink$Picks") ∈ lw_tbl ∧ Jvm.Cond.arrayOver (.array .int) ∈ lw_tbl ∧ Jvm.Cond.arrayOver (.array .long) ∈ lw_tbl := by decide +kernel
theorem zx_anewarray_ok {idx : Nat} {n : Int32} (hc : zx_chk k (pc, len, .anewarray idx, v0, w0, p0, a, b) = true) (hn : ¬ n < 0) (hN : n.toNatClampNeg ≤ 65536)
    (hz : zx_To l E d k (pc + len) ls (.ref (zx_n M) :: st) (zx_nw M 26 n.toNatClampNeg n.toNatClampNeg) Qo) : zx_To l E d k pc ls (.int n :: st) M Qo := by
  obtain ⟨hd, hl⟩ := zx_chk_dec hc
  have ho := zx_chk_opr hc
  simp only [zx_opr, Bool.and_eq_true, decide_eq_true_eq] at ho
  obtain ⟨ha, hw⟩ := ho
  rcases hl with hl | hl <;> first | (cases hl; done) | skip
  rw [hl] at hd hz
  refine zx_Zn (M1 := zx_nw M 26 n.toNatClampNeg n.toNatClampNeg) (Nat.le_succ _) (Nat.le_add_right _ _) (fun p e R s m args below meth c hF Q H locs cells slots la hC hS hR hL hB kk => ?_) hz
  rw [zx_nw_n] at hC kk
  rw [zx_nw_s] at hS kk
  obtain ⟨hx, hb, -, hown, hts, hK, -⟩ := hF
  have hA := zx_arr hK (a := 26) (by omega) (by omega)
  refine W.anew hx hb hown (hts _ (zx_w_mem hw)) (va_AO.use (zx_over hK zx_over_all.1 rfl)) rfl hd rfl hn (by omega) hC hS fun cA kA comp f1 f2 f3 f4 => ?_
  have hcA : cA = E.2.2 26 := by
    obtain ⟨kA', comp', k1, k2, k3, k4⟩ := hA.2
    exact Option.some.inj (f1.symm.trans k4)
  subst hcA
  have key := kk (H.push { cls := E.2.2 26, slots := Array.replicate n.toNatClampNeg .null, vm := .none }) locs la (hR.push (by rw [Array.size_push]) (fun q hq => by rw [Array.getElem?_push, if_neg (Nat.ne_of_lt hq)]) ⟨fun hlt => ?_, fun g1 g2 => ?_⟩) hL hB
  · have e : H.size = zx_rho E (zx_n M) := hR.at
    rw [e]
    exact key
  · simp [zx_kd, zx_nw, zx_u1] at hlt
  · have hk : zx_kd (zx_nw M 26 n.toNatClampNeg n.toNatClampNeg) (zx_n M) = 26 := by simp [zx_kd, zx_nw, zx_u1]
    have hln : zx_ln (zx_nw M 26 n.toNatClampNeg n.toNatClampNeg) (zx_n M) = n.toNatClampNeg := by simp [zx_ln, zx_nw, zx_u1]
    rw [hk, hln, ← hR.at, Array.getElem?_push_size, arrV_new]
    congr 2
    funext j
    rw [zx_nw_cv]
    rfl
/-- Picks into a row of them -/
theorem zx_aastore_ok {i x : Nat} {j : Int32} (hc : zx_chk k (pc, len, .aastore, v0, w0, p0, a, b) = true) (hi : zx_is M i 26) (hj : vp_in j (zx_ln M i)) (hx7 : zx_is M x 7)
    (hz : zx_To l E d k (pc + len) ls st (zx_pr M i j.toNatClampNeg (some x)) Qo) : zx_To l E d k pc ls (.ref x :: .int j :: .ref i :: st) M Qo := by
  obtain ⟨hd, hl⟩ := zx_chk_dec hc
  rcases hl with hl | hl <;> first | (cases hl; done) | skip
  rw [hl] at hd hz
  refine zx_Zs (M1 := zx_pr M i j.toNatClampNeg (some x)) rfl rfl (fun p e R s m args below meth c hF Q H locs cells slots la _ _ hR hL hB kk => ?_) hz
  obtain ⟨hx, hb, -, hown, hts, hK, -⟩ := hF
  have hlt : j.toNatClampNeg < zx_ln M i := Nat.not_le.mp fun q => hj (Or.inr q)
  have h0 : ¬ j < 0 := fun q => hj (Or.inl q)
  obtain ⟨cellV, g1, g2, g3, -⟩ := zx_ob hR hx7 (by omega)
  have hcls := (hK.1.1 7 _ (zx_cl_at (by omega))).2
  obtain ⟨kA, comp, k1, k2, k3, -⟩ := (zx_arr hK (a := 26) (by omega) (by omega)).2
  have hcomp : comp = E.2.1.1 7 := Option.some.inj (k3.symm.trans hcls.1)
  subst hcomp
  obtain ⟨kC, hkC, -⟩ := id hcls.2
  refine W.aast hx hb (zx_ar hR hi (by omega) (by omega)) (fun q h => by cases h) (fun h => by cases h) k1 k2 rfl hkC ⟨h0, by rw [arrV_size]; exact hlt⟩ g1 (fun q h => by rw [g3] at h; cases h) (by rw [g2]; exact hkC) (by rw [g2]; exact va_assign hcls) rfl rfl hd fun H' e1 e2 e3 => ?_
  refine kk H' _ la (zx_ast_R (M1 := zx_pr M i j.toNatClampNeg (some x)) hR hi (by omega) (by omega) rfl (fun _ => rfl) (fun _ => rfl) (fun _ _ => rfl) (fun _ _ => rfl) (fun q hq => ?_) ?_ (fun y hy => ?_) e1 e2 e3) hL (hB.add hi.1)
  · funext y; simp [zx_pr, zx_u2, hq]
  · simp [zx_cv, zx_pr, zx_u2, zx_tc, zx_at, zx_v, va_rf]
  · simp [zx_cv, zx_pr, zx_u2, zx_tc, zx_at, hy]
end ZN
