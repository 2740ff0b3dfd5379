/-! ===== the start: classes, arrays' classes, the static rows ===== -/
theorem zl_over {args : Array Value} {s : State} {t : FieldType} (h : (Jvm.Cond.arrayOver (.array t)).before args s = true) :
    ∃ (c : ClassId) (k : Class) (comp : ClassId), s.vm.findClass ("[" ++ (FieldType.array t).toString) = some c ∧ s.vm.classes[c]? = some k ∧ k.kind = .array comp (.array t) := by
  simp only [Cond.before, Cond.holds, Cond.value, beq_iff_eq] at h
  cases hc : s.vm.findClass (FieldType.array t).toString with
  | none => simp [hc] at h
  | some comp =>
    simp only [hc, Option.bind_some, Option.bind_eq_some_iff, Option.map_eq_some_iff] at h
    obtain ⟨c, -, k, hk, hb⟩ := h
    cases hkind : k.kind with
    | array component ty =>
      rw [hkind] at hb
      simp at hb
      exact ⟨c, k, component, hb.2, hk, by rw [hkind, hb.1]⟩
    | _ => rw [hkind] at hb; simp at hb
theorem zl_wds : Jvm.Cond.arrayClass .int ∈ lw_tbl ∧ Jvm.Cond.arrayClass .long ∈ lw_tbl ∧ Jvm.Cond.arrayClass .byte ∈ lw_tbl ∧ Jvm.Cond.arrayClass .boolean ∈ lw_tbl := by decide +kernel
theorem zl_wds2 : (Jvm.Cond.laysStatic "NamesThatShrink$NewNames" "SEVENS" "[I" ∈ lw_tbl ∧ Jvm.Cond.laysStatic "NamesThatShrink$NewNames" "SIXES" "[I" ∈ lw_tbl ∧ Jvm.Cond.initialized "NamesThatShrink$NewNames" ∈ lw_tbl) ∧ Jvm.Cond.laysStatic Bundle.tN "UNASSIGNED_STACK" Bundle.steD ∈ lw_tbl ∧ Jvm.Cond.laysStatic Bundle.tN "SUPPRESSED_SENTINEL" Bundle.listD ∈ lw_tbl ∧ Jvm.Cond.initialized Bundle.tN ∈ lw_tbl := by decide +kernel
theorem zl_nw {w : Jvm.Cond} (hw : w ∈ zx_nest) {args : Array Value} {s : State} (h : w.before args s = true) : va_Nw w s := by
  have h2 := (List.mem_filter.mp hw).2
  cases w <;> first | exact va_Nw.of rfl h | (cases h2; done) | exact h
theorem zl_arrs {s : State} {args : Array Value} (hts : ∀ w ∈ lw_tbl, w.before args s = true) (a : Nat) : ∃ c : ClassId, 20 ≤ a → a ≤ 26 → ArrOfT s c (zx_at a) ∧ va_RA s c (zx_at a) := by
  by_cases h : 20 ≤ a ∧ a ≤ 26
  · have one : ∀ ty : FieldType, Jvm.Cond.arrayClass ty ∈ lw_tbl → ∃ c : ClassId, ArrOfT s c ty ∧ s.vm.findClass ("[" ++ ty.toString) = some c := fun ty hw => by
      obtain ⟨c, k, comp, h1, h2, h3⟩ := Cond.arrayClass_spec (hts _ hw)
      exact ⟨c, fun n z => ⟨fun k h => (by cases h), k, h2, comp, h3⟩, h1⟩
    have two : ∀ ty : FieldType, Jvm.Cond.arrayOver (.array ty) ∈ lw_tbl → ∃ c : ClassId, ArrOfT s c (.array ty) ∧ s.vm.findClass ("[" ++ (FieldType.array ty).toString) = some c := fun ty hw => by
      obtain ⟨c, k, comp, h1, h2, h3⟩ := zl_over (hts _ hw)
      exact ⟨c, fun n z => ⟨fun k h => (by cases h), k, h2, comp, h3⟩, h1⟩
    rcases (by omega : a = 20 ∨ a = 21 ∨ a = 22 ∨ a = 23 ∨ a = 24 ∨ a = 25 ∨ a = 26) with rfl | rfl | rfl | rfl | rfl | rfl | rfl
    · obtain ⟨c, h1, h2⟩ := one .int zl_wds.1
      exact ⟨c, fun _ _ => ⟨h1, h2⟩⟩
    · obtain ⟨c, h1, h2⟩ := one .long zl_wds.2.1
      exact ⟨c, fun _ _ => ⟨h1, h2⟩⟩
    · obtain ⟨c, h1, h2⟩ := one .byte zl_wds.2.2.1
      exact ⟨c, fun _ _ => ⟨h1, h2⟩⟩
    · obtain ⟨c, h1, h2⟩ := one .boolean zl_wds.2.2.2
      exact ⟨c, fun _ _ => ⟨h1, h2⟩⟩
    · obtain ⟨c, h1, h2⟩ := two .int zx_over_all.2.1
      exact ⟨c, fun _ _ => ⟨h1, h2⟩⟩
    · obtain ⟨c, h1, h2⟩ := two .long zx_over_all.2.2
      exact ⟨c, fun _ _ => ⟨h1, h2⟩⟩
    · obtain ⟨comp, c, k, h1, -, h3, h4, h5⟩ := Cond.arrayOver_spec (hts _ zx_over_all.1)
      exact ⟨c, fun _ _ => ⟨fun n z => ⟨fun k h => (by cases h), k, h3, comp, h4⟩, k, comp, h3, h4, h1, h5⟩⟩
  · exact ⟨0, fun h1 h2 => absurd ⟨h1, h2⟩ h⟩
theorem zl_known {s : State} {args : Array Value} (hts : ∀ w ∈ lw_tbl, w.before args s = true) : ∃ (D : va_G) (A : Nat → ClassId), ∀ q : Nat × Nat × Nat × Nat, zx_K (q, D, A) s := by
  have h1 : ∀ a : Nat, ∃ q : ClassId × (Nat → Nat), a < 13 → u_Kn s (zx_C a) (zx_T a) (zx_N a) q.1 q.2 := fun a => by
    by_cases ha : a < 13
    · have hi := List.all_eq_true.mp zx_new_all a (List.mem_range.mpr ha)
      simp only [Bool.and_eq_true, decide_eq_true_eq] at hi
      obtain ⟨cC, iS, h⟩ := u_known (C := zx_C a) (T := zx_T a) (N := zx_N a) (n := zx_N a) hts (fun w hw => (List.mem_filter.mp (zx_lays_in ha w hw)).1) (hts _ hi.1.1.1)
      exact ⟨(cC, iS), fun _ => h⟩
    · exact ⟨(0, fun _ => 0), fun h => absurd h ha⟩
  obtain ⟨g, hg⟩ := Classical.axiomOfChoice h1
  obtain ⟨A, hA⟩ := Classical.axiomOfChoice (zl_arrs hts)
  refine ⟨(fun a => (g a).1, fun a => (g a).2), A, fun q => ⟨⟨fun c r hr => ?_, fun k r hr => ?_⟩, fun w hw => zl_nw hw (hts w (List.mem_filter.mp hw).1)⟩⟩
  · have hc : c < 13 := (List.getElem?_eq_some_iff.mp hr).1
    rw [zx_cl_at hc] at hr
    cases hr
    exact hg c hc
  · have hk : k < 7 := (List.getElem?_eq_some_iff.mp hr).1
    have e := zx_tys_at (q, (fun a => (g a).1, fun a => (g a).2), A) (a := k + 20) (by omega) (by omega)
    rw [Nat.add_sub_cancel] at e
    rw [e] at hr
    cases hr
    exact hA (k + 20) (by omega) (by omega)
/-- the static rows -/
theorem zl_stat2 {b : Addr} {s : State} (hts : ∀ w ∈ lw_tbl, w.before #[Value.ref b] s = true) (hgv : (Jvm.Cond.and given_1 narrow_1).before #[Value.ref b] s = true) :
    ∃ t7 t6 : Nat, (va_T .int t7 6 (fun j => .int (nI (7 ^ j))) (fun q => s.heap.size ≤ q) s s.heap ∧ va_Z "NamesThatShrink$NewNames" "SEVENS" "[I" (.ref t7) (fun q => s.heap.size ≤ q) s s.heap) ∧ (va_T .int t6 6 (fun j => .int (nI (6 ^ j))) (fun q => s.heap.size ≤ q) s s.heap ∧ va_Z "NamesThatShrink$NewNames" "SIXES" "[I" (.ref t6) (fun q => s.heap.size ≤ q) s s.heap) ∧
      vx_Zq Bundle.tN "UNASSIGNED_STACK" Bundle.steD (fun q => s.heap.size ≤ q) s s.heap ∧ vx_Zq Bundle.tN "SUPPRESSED_SENTINEL" Bundle.listD (fun q => s.heap.size ≤ q) s s.heap := by
  have hs := flat_of_before _ hgv
  have hA : ∀ a : Nat, a < s.heap.size → ¬ (fun q : Nat => s.heap.size ≤ q) a := fun a ha => Nat.not_le.mpr ha
  obtain ⟨t7, h7, T7⟩ := va_Tof (tm := .static "NamesThatShrink$NewNames" "SEVENS" "[I") (ty := .int) (N := 6) (f := fun j => .int (nI (7 ^ j))) (by decide) (hs _ (by decide +kernel)) (va_eqt (z := 6) (hs _ (by decide +kernel))) (fun j hj => by
    rcases (by omega : j = 0 ∨ j = 1 ∨ j = 2 ∨ j = 3 ∨ j = 4 ∨ j = 5) with rfl | rfl | rfl | rfl | rfl | rfl
    · exact va_eqt (z := 1) (hs _ (by decide +kernel))
    · exact va_eqt (z := 7) (hs _ (by decide +kernel))
    · exact va_eqt (z := 49) (hs _ (by decide +kernel))
    · exact va_eqt (z := 343) (hs _ (by decide +kernel))
    · exact va_eqt (z := 2401) (hs _ (by decide +kernel))
    · exact va_eqt (z := 16807) (hs _ (by decide +kernel))) hA
  obtain ⟨t6, h6, T6⟩ := va_Tof (tm := .static "NamesThatShrink$NewNames" "SIXES" "[I") (ty := .int) (N := 6) (f := fun j => .int (nI (6 ^ j))) (by decide) (hs _ (by decide +kernel)) (va_eqt (z := 6) (hs _ (by decide +kernel))) (fun j hj => by
    rcases (by omega : j = 0 ∨ j = 1 ∨ j = 2 ∨ j = 3 ∨ j = 4 ∨ j = 5) with rfl | rfl | rfl | rfl | rfl | rfl
    · exact va_eqt (z := 1) (hs _ (by decide +kernel))
    · exact va_eqt (z := 6) (hs _ (by decide +kernel))
    · exact va_eqt (z := 36) (hs _ (by decide +kernel))
    · exact va_eqt (z := 216) (hs _ (by decide +kernel))
    · exact va_eqt (z := 1296) (hs _ (by decide +kernel))
    · exact va_eqt (z := 7776) (hs _ (by decide +kernel))) hA
  exact ⟨t7, t6, ⟨T7, va_Zref (hts _ zl_wds2.1.1) (hts _ zl_wds2.1.2.2) h7 hA⟩, ⟨T6, va_Zref (hts _ zl_wds2.1.2.1) (hts _ zl_wds2.1.2.2) h6 hA⟩, vx_Zqof (hts _ zl_wds2.2.1) (hts _ zl_wds2.2.2.2) (hs _ (by decide +kernel)) hA, vx_Zqof (hts _ zl_wds2.2.2.1) (hts _ zl_wds2.2.2.2) (hs _ (by decide +kernel)) hA⟩
theorem zl_272 : zx_b 272 = code ∧ zx_mL 272 = 7 ∧ zx_own 272 = "NamesThatShrinkLaw" ∧ (zx_y 272).name = "law" := ⟨rfl, by decide +kernel, by decide +kernel, by decide +kernel⟩
