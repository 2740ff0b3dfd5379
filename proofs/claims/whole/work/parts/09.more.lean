/-! ===== rows of rows, copies, Math, Object.<init> ===== -/
theorem zx_jdk_all : ([Jvm.Cond.native arraycopyName, .static arraycopyName, .initialized "java/lang/System", .static Lib.Math.max.name, .static Lib.Math.min.name, .initialized "java/lang/Math", .code Lib.Math.max.name Lib.Math.max.code 2 (some .int), .code Lib.Math.min.name Lib.Math.min.code 2 (some .int), .instanceMethod Lib.objectInit, .code Lib.objectInit ⟨#[0xb1]⟩ 1 none, .arrayClass .int, .arrayClass .long].all fun w => decide (w ∈ lw_tbl) && goodWord w) = true := by decide +kernel
theorem zx_jdk {w : Jvm.Cond} (h : w ∈ [Jvm.Cond.native arraycopyName, .static arraycopyName, .initialized "java/lang/System", .static Lib.Math.max.name, .static Lib.Math.min.name, .initialized "java/lang/Math", .code Lib.Math.max.name Lib.Math.max.code 2 (some .int), .code Lib.Math.min.name Lib.Math.min.code 2 (some .int), .instanceMethod Lib.objectInit, .code Lib.objectInit ⟨#[0xb1]⟩ 1 none, .arrayClass .int, .arrayClass .long]) : w ∈ zx_good := by
  have h1 := List.all_eq_true.mp zx_jdk_all w h
  simp only [Bool.and_eq_true, decide_eq_true_eq] at h1
  exact List.mem_filter.mpr h1
/-- how many words a stack takes -/
def zx_sw8 (st : List Value) : Nat := (st.map fun v => v.category).sum
theorem zx_sw8_map (E : zx_E) (st : List Value) : ((st.map (zx_v E)).map fun v => v.category).sum = zx_sw8 st := by
  unfold zx_sw8
  rw [List.map_map]
  congr 1
  exact List.map_congr_left (fun v _ => zx_cat E v)
section ZO
variable {l : Launch} {E : zx_E} {d k pc pc1 len p0 a b : Nat} {v0 : Int32} {w0 : Int64} {ls : List (Option Value)} {st st1 : List Value} {M M1 : zx_M} {Qo : Option Value → zx_M → Prop}
theorem zx_objinit_ok {idx i : Nat} (hc : zx_chk k (pc, len, .invokespecial idx, v0, w0, p0, 5, b) = true) (hst : zx_sw8 st ≤ 8) (hd1 : 1 ≤ d)
    (hz : zx_To l E d k (pc + len) ls st M Qo) : zx_To l E d k pc ls (.ref i :: st) M Qo := by
  obtain ⟨hd, hl⟩ := zx_chk_dec hc
  have ho := zx_chk_opr hc
  simp [zx_opr] at ho
  rcases hl with hl | hl <;> first | (cases hl; done) | skip
  rw [hl] at hd hz
  refine zx_Zs rfl rfl (fun p e R s m args below meth c hF Q H locs cells slots la _ _ hR hL hB kk => ?_) hz
  obtain ⟨hx, hb, hml, hown, hts, hK, hfr, hlo, -⟩ := hF
  refine W.objInit hx hb hown (hts _ (zx_w_mem ho)) (hts _ (zx_jdk (by simp))) (hts _ (zx_jdk (by simp))) rfl (by rw [hml]; exact hL.1) rfl hd (by omega) ?_ (kk H locs la hR hL hB)
  rw [zx_sw8_map]
  show 2 * 0 + _ + 12 ≤ _
  omega
theorem zx_max_ok {idx : Nat} {x y : Int32} (hc : zx_chk k (pc, len, .invokestatic idx, v0, w0, p0, 7, b) = true) (hst : zx_sw8 st ≤ 8) (hd1 : 1 ≤ d)
    (hz : zx_To l E d k (pc + len) ls (.int (if x < y then y else x) :: st) M Qo) : zx_To l E d k pc ls (.int y :: .int x :: st) M Qo := by
  obtain ⟨hd, hl⟩ := zx_chk_dec hc
  have ho := zx_chk_opr hc
  simp [zx_opr] at ho
  rcases hl with hl | hl <;> first | (cases hl; done) | skip
  rw [hl] at hd hz
  refine zx_Zs rfl rfl (fun p e R s m args below meth c hF Q H locs cells slots la hC hS hR hL hB kk => ?_) hz
  obtain ⟨hx, hb, hml, hown, hts, hK, hfr, hlo, -⟩ := hF
  refine va_mmax hx hb (by rw [hml]; exact hL.1.symm) hown (hts _ (zx_w_mem ho)) (hts _ (zx_jdk (by simp))) (hts _ (zx_jdk (by simp))) (hts _ (zx_jdk (by simp))) (by omega) ?_ hC hS hd (kk H locs la hR hL hB)
  have := zx_sw8_map E st
  omega
theorem zx_min_ok {idx : Nat} {x y : Int32} (hc : zx_chk k (pc, len, .invokestatic idx, v0, w0, p0, 8, b) = true) (hst : zx_sw8 st ≤ 8) (hd1 : 1 ≤ d)
    (hz : zx_To l E d k (pc + len) ls (.int (if y < x then y else x) :: st) M Qo) : zx_To l E d k pc ls (.int y :: .int x :: st) M Qo := by
  obtain ⟨hd, hl⟩ := zx_chk_dec hc
  have ho := zx_chk_opr hc
  simp [zx_opr] at ho
  rcases hl with hl | hl <;> first | (cases hl; done) | skip
  rw [hl] at hd hz
  refine zx_Zs rfl rfl (fun p e R s m args below meth c hF Q H locs cells slots la hC hS hR hL hB kk => ?_) hz
  obtain ⟨hx, hb, hml, hown, hts, hK, hfr, hlo, -⟩ := hF
  refine va_mmin hx hb (by rw [hml]; exact hL.1.symm) hown (hts _ (zx_w_mem ho)) (hts _ (zx_jdk (by simp))) (hts _ (zx_jdk (by simp))) (hts _ (zx_jdk (by simp))) (by omega) ?_ hC hS hd (kk H locs la hR hL hB)
  have := zx_sw8_map E st
  omega
/-- a row of ints copied -/
def zx_cpy (M : zx_M) (src dst sp dp n : Nat) : zx_M := (zx_ur M.1 dst (va_cpy (M.1 src) (M.1 dst) sp dp n), M.2)
theorem zx_copy_ok {idx i0 i1 : Nat} {sp dp n : Int32} (hc : zx_chk k (pc, len, .invokestatic idx, v0, w0, p0, 6, b) = true) (hst : zx_sw8 st ≤ 8) (hd1 : 1 ≤ d) (hi0 : zx_is M i0 20) (hi1 : zx_is M i1 20)
    (h1 : ¬ sp < 0) (h2 : ¬ dp < 0) (h3 : ¬ n < 0) (h4 : sp.toNatClampNeg + n.toNatClampNeg ≤ zx_ln M i0) (h5 : dp.toNatClampNeg + n.toNatClampNeg ≤ zx_ln M i1)
    (hz : zx_To l E d k (pc + len) ls st (zx_cpy M i0 i1 sp.toNatClampNeg dp.toNatClampNeg n.toNatClampNeg) Qo) : zx_To l E d k pc ls (.int n :: .int dp :: .ref i1 :: .int sp :: .ref i0 :: st) M Qo := by
  obtain ⟨hd, hl⟩ := zx_chk_dec hc
  have ho := zx_chk_opr hc
  simp [zx_opr] at ho
  rcases hl with hl | hl <;> first | (cases hl; done) | skip
  rw [hl] at hd hz
  refine zx_Zs (M1 := zx_cpy M i0 i1 sp.toNatClampNeg dp.toNatClampNeg n.toNatClampNeg) rfl rfl (fun p e R s m args below meth c hF Q H locs cells slots la hC hS hR hL hB kk => ?_) hz
  obtain ⟨hx, hb, hml, hown, hts, hK, hfr, hlo, -⟩ := hF
  have nn : ∀ z : Int32, ¬ z < 0 → z.toInt = (z.toNatClampNeg : Int) := by
    intro z hz
    have hz0 : (0 : Int) ≤ z.toInt := by
      have := Int32.not_lt.mp hz
      simpa using Int32.le_iff_toInt_le.mp this
    show z.toInt = ((z.toInt.toNat : Nat) : Int)
    omega
  intro T hT X
  have hc0 : H[zx_rho E i0]? = some (arrV (E.2.2 20) (zx_ln M i0) (fun j => .int (M.1 i0 j))) := zx_ar hR hi0 (by omega) (by omega)
  have hc1 : H[zx_rho E i1]? = some (arrV (E.2.2 20) (zx_ln M i1) (fun j => .int (M.1 i1 j))) := zx_ar hR hi1 (by omega) (by omega)
  obtain ⟨-, k0, hk0, cm0, hkk0⟩ := (zx_arr hK (a := 20) (by omega) (by omega)).1 0 (fun _ => .null)
  obtain ⟨vm', X', step⟩ := X.arraycopy hx hown (hts _ (zx_w_mem ho)) (hts _ (zx_jdk (by simp))) (hts _ (zx_jdk (by simp))) (hts _ (zx_jdk (by simp))) (src := zx_rho E i0) (dst := zx_rho E i1) (cs := arrV (E.2.2 20) (zx_ln M i0) (fun j => .int (M.1 i0 j))) (cd := arrV (E.2.2 20) (zx_ln M i1) (fun j => .int (M.1 i1 j))) (srcPos := sp) (destPos := dp) (n := n) (by rw [hT]; exact hc0) (by rw [hT]; exact hc1)
    (fun _ h => by cases h) (fun _ h => by cases h) (fun h => by cases h) (fun h => by cases h) hk0 hk0 hkk0 hkk0 (by simp [zx_at, refKind]) h1 h2 h3
    (by rw [nn sp h1, nn n h3, arrV_size]; omega)
    (by rw [nn dp h2, nn n h3, arrV_size]; omega)
    (fun vm₁ _ i hi => by
      have e : (arrV (E.2.2 20) (zx_ln M i0) (fun j => .int (M.1 i0 j))).slots.getD (sp.toNatClampNeg + i) .null = .int (M.1 i0 (sp.toNatClampNeg + i)) := by
        rw [Array.getD_eq_getD_getElem?, arrV_read _ _ (by omega)]
        rfl
      refine ⟨?_, ?_⟩
      · rw [e]
        rfl
      · rw [e]
        exact trivial)
    (g := F0 m pc la (.int n :: .int dp :: .ref (zx_rho E i1) :: .int sp :: .ref (zx_rho E i0) :: st.map (zx_v E))) rfl (by rw [hml]; exact hL.1) (rest := st.map (zx_v E)) rfl (by rw [hb]; exact hd) (by omega)
    (by
      have := zx_sw8_map E st
      show 2 * 0 + _ + (nativeFrameWords "java/lang/System" "arraycopy" 5 + 11) ≤ _
      have e7 : nativeFrameWords "java/lang/System" "arraycopy" 5 = 7 := by decide
      omega)
  have e1 : copied (arrV (E.2.2 20) (zx_ln M i0) (fun j => .int (M.1 i0 j))) (arrV (E.2.2 20) (zx_ln M i1) (fun j => .int (M.1 i1 j))) sp dp n = arrV (E.2.2 20) (zx_ln M i1) (fun j => .int (va_cpy (M.1 i0) (M.1 i1) sp.toNatClampNeg dp.toNatClampNeg n.toNatClampNeg j)) := va_copied (fun z => .int z) _ _ _ _ h4
  rw [e1] at X' step
  have hl : zx_rho E i1 < H.size := (Array.getElem?_eq_some_iff.mp hc1).1
  generalize hnew : arrV (E.2.2 20) (zx_ln M i1) (fun j => Value.int (va_cpy (M.1 i0) (M.1 i1) sp.toNatClampNeg dp.toNatClampNeg n.toNatClampNeg j)) = cN at X' step
  have hheap : ((T.setVm vm').setCell (zx_rho E i1) cN).heap = H.setIfInBounds (zx_rho E i1) cN := by rw [← hT]; rfl
  have oq : ∀ q : Nat, q ≠ zx_rho E i1 → (H.setIfInBounds (zx_rho E i1) cN)[q]? = H[q]? := fun q hq => by simp [Array.getElem?_setIfInBounds, Ne.symm hq]
  have hR1 : zx_R E (zx_cpy M i0 i1 sp.toNatClampNeg dp.toNatClampNeg n.toNatClampNeg) s (H.setIfInBounds (zx_rho E i1) cN) := by
    refine hR.put hi1.1 rfl (fun _ => rfl) (fun _ => rfl) (fun j hj => ?_) (fun _ _ => rfl) (fun _ _ => rfl) (by simp) oq ⟨fun hlt => ?_, fun g1 g2 => ?_⟩
    · simp [zx_cpy, zx_ur, hj]
    · have : zx_kd M i1 < 13 := hlt
      rw [hi1.2.2] at this; omega
    · have hk : zx_kd (zx_cpy M i0 i1 sp.toNatClampNeg dp.toNatClampNeg n.toNatClampNeg) i1 = 20 := hi1.2.2
      rw [hk]
      simp only [Array.getElem?_setIfInBounds, if_pos hl, if_true]
      rw [← hnew]
      simp [zx_cv, zx_cpy, zx_ur, zx_tc, zx_at, zx_v, zx_ln]
  obtain ⟨t, a1, b1⟩ := kk _ _ la hR1 hL (fun q hq => by
      rcases List.mem_append.mp hq with h | h
      · exact hB q h
      · obtain ⟨z, -, hz⟩ := List.mem_map.mp h
        rw [← hz]
        exact zx_rho_in hi1.1) _ hheap X'
  exact ⟨t, step t a1, b1⟩
/-- new T[n][m] -/
def zx_mn (M : zx_M) (kd n1 n2 : Nat) : zx_M := (fun x => if zx_n M ≤ x then fun _ => 0 else M.1 x, fun x => if zx_n M ≤ x then fun _ => 0 else M.2.1 x, fun x => if x = zx_n M then (fun j => if j < n1 then some (zx_n M + 1 + j) else none) else if zx_n M < x then fun _ => none else M.2.2.1 x,
  fun x => if x = zx_n M then kd else if zx_n M < x then kd - 4 else M.2.2.2.1 x, fun x => if x = zx_n M then n1 else if zx_n M < x then n2 else M.2.2.2.2.1 x, zx_n M + 1 + n1, zx_sl M + (n1 + n1 * n2))
theorem zx_outer (E : zx_E) (c : ClassId) (N h0 : Nat) : ∀ i : Nat, Jvm.Free.Multi.outerC c N h0 i = arrV c N (fun j => if j < i then .ref (h0 + 1 + j) else .null)
  | 0 => by
    show ({ cls := c, slots := Array.replicate N .null, vm := .none } : Cell) = _
    rw [arrV_new]
    refine congrArg (arrV c N) (funext fun j => ?_)
    simp
  | i + 1 => by
    show (Jvm.Free.Multi.outerC c N h0 i).setSlot i (.ref (h0 + 1 + i)) = _
    rw [zx_outer E c N h0 i, arrV_store]
    refine congrArg (arrV c N) (funext fun j => ?_)
    by_cases e : j = i
    · subst e
      simp [updV]
    · by_cases h : j < i
      · simp [updV, e, h, Nat.lt_succ_of_lt h]
      · simp [updV, e, h, show ¬ j < i + 1 by omega]
theorem zx_mna_ok {idx : Nat} {n1 n2 : Int32} (hc : zx_chk k (pc, len, .multianewarray idx 2, v0, w0, p0, a, b) = true) (hn1 : ¬ n1 < 0) (hn2 : ¬ n2 < 0) (hN1 : n1.toNatClampNeg ≤ 65536) (hN2 : n2.toNatClampNeg ≤ 65536)
    (hz : zx_To l E d k (pc + len) ls (.ref (zx_n M) :: st) (zx_mn M a n1.toNatClampNeg n2.toNatClampNeg) Qo) : zx_To l E d k pc ls (.int n2 :: .int n1 :: st) M Qo := by
  obtain ⟨hd, hl⟩ := zx_chk_dec hc
  have ho := zx_chk_opr hc
  simp only [zx_opr, Bool.and_eq_true, decide_eq_true_eq] at ho
  obtain ⟨⟨-, ha⟩, hw⟩ := ho
  rcases hl with hl | hl <;> first | (cases hl; done) | skip
  rw [hl] at hd hz
  refine zx_Zn (M1 := zx_mn M a n1.toNatClampNeg n2.toNatClampNeg) (by show _ ≤ zx_n M + 1 + _; omega) (Nat.le_add_right _ _) (fun p e R s m args below meth c hF Q H locs cells slots la hC hS hR hL hB kk => ?_) hz
  have hcn : zx_n (zx_mn M a n1.toNatClampNeg n2.toNatClampNeg) - zx_n M = 1 + n1.toNatClampNeg := by show zx_n M + 1 + _ - zx_n M = _; omega
  have hcs : zx_sl (zx_mn M a n1.toNatClampNeg n2.toNatClampNeg) - zx_sl M = n1.toNatClampNeg + n1.toNatClampNeg * n2.toNatClampNeg := by show zx_sl M + _ - zx_sl M = _; omega
  rw [hcn] at hC kk
  rw [hcs] at hS kk
  obtain ⟨hx, hb, -, hown, hts, hK, -⟩ := hF
  have hA := zx_arr hK (a := a) (by omega) (by omega)
  have hA4 := zx_arr hK (a := a - 4) (by omega) (by omega)
  obtain ⟨ty, hty, hat4⟩ : ∃ ty, zx_at a = .array ty ∧ zx_at (a - 4) = ty := by
    rcases ha with rfl | rfl
    · exact ⟨_, rfl, rfl⟩
    · exact ⟨_, rfl, rfl⟩
  have hover : (Jvm.Cond.arrayOver (.array ty)).before args s = true := by
    rcases ha with rfl | rfl <;> cases hty
    · exact zx_over hK zx_over_all.2.1 rfl
    · exact zx_over hK zx_over_all.2.2 rfl
  have hcls : (Jvm.Cond.arrayClass ty).before args s = true := by
    rcases ha with rfl | rfl <;> cases hty <;> exact hts _ (zx_jdk (by simp))
  have hclink : (Jvm.Cond.classLink (zx_own k) idx ("[" ++ (FieldType.array ty).toString)).before args s = true := by
    have h9 := hts _ (zx_w_mem hw)
    rcases ha with rfl | rfl <;> cases hty <;> exact h9
  intro T hT Xs
  have hby : n2.toNatClampNeg * componentBytes ty ≤ 536870912 := by
    rcases ha with rfl | rfl <;> cases hty <;> simp only [componentBytes] <;> omega
  have hdf : fits ty (defaultValue ty) = true ∧ (defaultValue ty).isDefault = true := by
    rcases ha with rfl | rfl <;> cases hty <;> exact ⟨by decide, by decide⟩
  obtain ⟨vm₁, cA, comp, -, fA, fC, hO, -, X', step⟩ := Xs.multianewarray2F hx hown hclink hover hcls (g := F0 m pc la (.int n2 :: .int n1 :: st.map (zx_v E))) rfl (by rw [hb]; exact hd) rfl hn1 hn2 (by omega) hby (by omega) hdf.1 hdf.2 hC hS
  have ecA : cA = E.2.2 a := by
    have h2 := hA.2
    rcases ha with rfl | rfl <;> cases hty <;> exact Option.some.inj (fA.symm.trans h2)
  have ecc : comp = E.2.2 (a - 4) := by
    have h2 := hA4.2
    rcases ha with rfl | rfl <;> cases hty <;> exact Option.some.inj (fC.symm.trans h2)
  subst ecA
  subst ecc
  generalize hF : Jvm.Free.Multi.fill (T.setVm vm₁) (E.2.2 a) (E.2.2 (a - 4)) n1.toNatClampNeg n2.toNatClampNeg (defaultValue ty) n1.toNatClampNeg = F at X' step
  have hTh : (T.setVm vm₁).heap = H := hT
  obtain ⟨f1, f2, -, -⟩ := Jvm.Free.Multi.fill_facts (T.setVm vm₁) (E.2.2 a) (E.2.2 (a - 4)) n1.toNatClampNeg n2.toNatClampNeg (defaultValue ty) n1.toNatClampNeg
  rw [hF, hTh] at f1 f2
  have hold : ∀ x : Nat, x < H.size → F.heap[x]? = H[x]? := fun x hx => by
    have := Jvm.Free.Multi.fill_old (T.setVm vm₁) (E.2.2 a) (E.2.2 (a - 4)) n1.toNatClampNeg n2.toNatClampNeg (defaultValue ty) (a := x) (by rw [hTh]; exact hx) n1.toNatClampNeg
    rw [hF, hTh] at this
    exact this
  have hrow : ∀ j : Nat, j < n1.toNatClampNeg → F.heap[H.size + 1 + j]? = some (arrV (E.2.2 (a - 4)) n2.toNatClampNeg (fun _ => defaultValue ty)) := fun j hj => by
    have := Jvm.Free.Multi.fill_inner (T.setVm vm₁) (E.2.2 a) (E.2.2 (a - 4)) n1.toNatClampNeg n2.toNatClampNeg (defaultValue ty) n1.toNatClampNeg j hj
    rw [hF, hTh] at this
    rw [this]
    exact congrArg some (arrV_new _ _ _)
  rw [zx_outer E] at f2
  have h3 := hR.1
  have hsz := hR.2.1
  have hR1 : zx_R E (zx_mn M a n1.toNatClampNeg n2.toNatClampNeg) s F.heap := by
    refine ⟨by show 3 ≤ zx_n M + 1 + _; omega, by rw [f1]; show _ = E.1.1 + (zx_n M + 1 + _); omega, ?_, fun j hj3 hj => ?_⟩
    · refine (hR.2.2.1.kept (fun a ha _ => hold a ha)).cong ?_ ?_ ?_ <;> intro j hj
      · simp [zx_kd, zx_mn, show j ≠ zx_n M by omega, show ¬ zx_n M < j by omega]
      · simp [zx_ln, zx_mn, show j ≠ zx_n M by omega, show ¬ zx_n M < j by omega]
      · simp [zx_mn, show ¬ zx_n M ≤ j by omega]
    · have hj' : j < zx_n M + 1 + n1.toNatClampNeg := hj
      rcases Nat.lt_trichotomy j (zx_n M) with hlt | heq | hgt
      · refine ((hR.2.2.2 j hj3 hlt).kept (hold _ (hR.ltH hj3 hlt))).cong ?_ ?_ ?_ ?_ ?_ <;> simp [zx_kd, zx_ln, zx_mn, show j ≠ zx_n M by omega, show ¬ zx_n M < j by omega, show ¬ zx_n M ≤ j by omega]
      · subst heq
        have hk : zx_kd (zx_mn M a n1.toNatClampNeg n2.toNatClampNeg) (zx_n M) = a := by simp [zx_kd, zx_mn]
        have hln : zx_ln (zx_mn M a n1.toNatClampNeg n2.toNatClampNeg) (zx_n M) = n1.toNatClampNeg := by simp [zx_ln, zx_mn]
        refine ⟨fun hlt => ?_, fun g1 g2 => ?_⟩
        · rw [hk] at hlt; omega
        · rw [hk, hln, ← hR.at, f2]
          congr 2
          funext j
          have htc : zx_tc (zx_at a) = 2 := by rw [hty]; rfl
          rw [htc]
          simp only [zx_cv, zx_mn, if_true]
          by_cases hjn : j < n1.toNatClampNeg
          · simp only [hjn, if_true, va_rf, zx_v]
            have e8 : zx_rho E (zx_n M + 1 + j) = H.size + 1 + j := by rw [zx_rho_ge (by omega)]; omega
            rw [e8]
          · simp [hjn, va_rf, zx_v]
      · have hk : zx_kd (zx_mn M a n1.toNatClampNeg n2.toNatClampNeg) j = a - 4 := by simp [zx_kd, zx_mn, show j ≠ zx_n M by omega, hgt]
        have hln : zx_ln (zx_mn M a n1.toNatClampNeg n2.toNatClampNeg) j = n2.toNatClampNeg := by simp [zx_ln, zx_mn, show j ≠ zx_n M by omega, hgt]
        refine ⟨fun hlt => ?_, fun g1 g2 => ?_⟩
        · rw [hk] at hlt; omega
        · rw [hk, hln]
          have e9 := hrow (j - zx_n M - 1) (by omega)
          rw [show H.size + 1 + (j - zx_n M - 1) = zx_rho E j by rw [zx_rho_ge hj3]; omega] at e9
          rw [e9]
          congr 2
          funext y
          rw [hat4]
          rcases ha with rfl | rfl <;> cases hty <;> simp [zx_cv, zx_mn, zx_tc, zx_v, defaultValue, show zx_n M ≤ j by omega]
  obtain ⟨t, a1, b1⟩ := kk F.heap locs la hR1 hL hB F rfl (by rw [show cells + (1 + n1.toNatClampNeg) = cells + 1 + n1.toNatClampNeg by omega, show slots + (n1.toNatClampNeg + n1.toNatClampNeg * n2.toNatClampNeg) = slots + n1.toNatClampNeg + n1.toNatClampNeg * n2.toNatClampNeg by omega]; exact X')
  refine ⟨t, step t ?_, b1⟩
  have e0 : T.heap.size = zx_rho E (zx_n M) := by rw [hT]; exact hR.at
  rw [e0]
  exact a1
end ZO
