/-! ===== the flat machine: memory, its picture in the heap ===== -/
/-- ints, longs, references by cell and place; a cell's kind and length; how many cells, how many slots were made -/
abbrev zx_M : Type := (Nat → Nat → Int32) × (Nat → Nat → Int64) × (Nat → Nat → Option Nat) × (Nat → Nat) × (Nat → Nat) × Nat × Nat
def zx_kd (M : zx_M) (i : Nat) : Nat := M.2.2.2.1 i
def zx_ln (M : zx_M) (i : Nat) : Nat := M.2.2.2.2.1 i
def zx_n (M : zx_M) : Nat := M.2.2.2.2.2.1
def zx_sl (M : zx_M) : Nat := M.2.2.2.2.2.2
def zx_u2 {α : Type} (f : Nat → Nat → α) (i k : Nat) (v : α) : Nat → Nat → α := fun x y => if x = i ∧ y = k then v else f x y
def zx_u1 {α : Type} (f : Nat → α) (i : Nat) (v : α) : Nat → α := fun x => if x = i then v else f x
def zx_ur {α : Type} (f : Nat → Nat → α) (i : Nat) (g : Nat → α) : Nat → Nat → α := fun x => if x = i then g else f x
def zx_pi (M : zx_M) (i k : Nat) (v : Int32) : zx_M := (zx_u2 M.1 i k v, M.2)
def zx_pl (M : zx_M) (i k : Nat) (v : Int64) : zx_M := (M.1, zx_u2 M.2.1 i k v, M.2.2)
def zx_pr (M : zx_M) (i k : Nat) (v : Option Nat) : zx_M := (M.1, M.2.1, zx_u2 M.2.2.1 i k v, M.2.2.2)
/-- a new cell of a kind, a length; its places are 0 or null; z slots -/
def zx_nw (M : zx_M) (kd ln z : Nat) : zx_M := (zx_ur M.1 (zx_n M) (fun _ => 0), zx_ur M.2.1 (zx_n M) (fun _ => 0), zx_ur M.2.2.1 (zx_n M) (fun _ => none), zx_u1 M.2.2.2.1 (zx_n M) kd, zx_u1 M.2.2.2.2.1 (zx_n M) ln, zx_n M + 1, zx_sl M + z)
/-- where the cells lie: the first new one, the script, the two static rows; the classes' numbers and slots, the arrays' classes -/
abbrev zx_E : Type := (Nat × Nat × Nat × Nat) × va_G × (Nat → ClassId)
def zx_rho (E : zx_E) (i : Nat) : Nat := match i with
  | 0 => E.1.2.1
  | 1 => E.1.2.2.1
  | 2 => E.1.2.2.2
  | j + 3 => E.1.1 + j
def zx_v (E : zx_E) (v : Value) : Value := match v with
  | .ref i => .ref (zx_rho E i)
  | w => w
/-- 0 an int, 1 a long, 2 a reference -/
def zx_tc (t : FieldType) : Nat := match t with
  | .long => 1
  | .object _ => 2
  | .array _ => 2
  | _ => 0
def zx_cv (M : zx_M) (t i k : Nat) : Value := match t with
  | 0 => .int (M.1 i k)
  | 1 => .long (M.2.1 i k)
  | _ => va_rf (M.2.2.1 i k)
def zx_A (E : zx_E) : Nat → Prop := fun q => E.1.1 ≤ q
def zx_cell (E : zx_E) (M : zx_M) (i : Nat) (H : Heap) : Prop :=
  (zx_kd M i < 13 → t_OB (zx_rho E i) (E.2.1.1 (zx_kd M i)) (zx_N (zx_kd M i)) (E.2.1.2 (zx_kd M i)) H (fun k => zx_v E (zx_cv M (zx_tc (zx_ty (zx_kd M i) k)) i k))) ∧
  (20 ≤ zx_kd M i → zx_kd M i ≤ 26 → H[zx_rho E i]? = some (arrV (E.2.2 (zx_kd M i)) (zx_ln M i) (fun j => zx_v E (zx_cv M (zx_tc (zx_at (zx_kd M i))) i j))))
def zx_ext (E : zx_E) (M : zx_M) (U : State) (H : Heap) : Prop :=
  (∀ i, i < 3 → zx_kd M i = 30 ∧ va_T .int (zx_rho E i) (zx_ln M i) (fun j => .int (M.1 i j)) (zx_A E) U H) ∧
  va_Z "NamesThatShrink$NewNames" "SEVENS" "[I" (.ref (zx_rho E 1)) (zx_A E) U H ∧ va_Z "NamesThatShrink$NewNames" "SIXES" "[I" (.ref (zx_rho E 2)) (zx_A E) U H ∧
  vx_Zq Bundle.tN "UNASSIGNED_STACK" Bundle.steD (zx_A E) U H ∧ vx_Zq Bundle.tN "SUPPRESSED_SENTINEL" Bundle.listD (zx_A E) U H
def zx_R (E : zx_E) (M : zx_M) (U : State) (H : Heap) : Prop :=
  3 ≤ zx_n M ∧ H.size + 3 = E.1.1 + zx_n M ∧ zx_ext E M U H ∧ ∀ i, 3 ≤ i → i < zx_n M → zx_cell E M i H
def zx_tys (E : zx_E) : List (ClassId × FieldType) := [(E.2.2 20, .int), (E.2.2 21, .long), (E.2.2 22, .byte), (E.2.2 23, .boolean), (E.2.2 24, .array .int), (E.2.2 25, .array .long), (E.2.2 26, .object "NamesThatShrink$Picks")]
def zx_nest : List Jvm.Cond := lw_tbl.filter (fun w => match w with
  | .methodLinkNest .. => true
  | .castable .. => true
  | .declares .. => true
  | .arrayOver (.object _) => true
  | .arrayOver (.array _) => true
  | _ => false)
def zx_K (E : zx_E) (U : State) : Prop := va_K E.2.1 zx_cl (zx_tys E) U ∧ ∀ w ∈ zx_nest, va_Nw w U
theorem zx_rho_ge {E : zx_E} {i : Nat} (h : 3 ≤ i) : zx_rho E i = E.1.1 + (i - 3) := by
  match i, h with
  | j + 3, _ => simp [zx_rho]
theorem zx_rho_in {E : zx_E} {i : Nat} (h : 3 ≤ i) : zx_A E (zx_rho E i) := by
  rw [zx_rho_ge h]; exact Nat.le_add_right _ _
theorem zx_rho_inj {E : zx_E} {i j : Nat} (hi : 3 ≤ i) (hj : 3 ≤ j) (h : zx_rho E i = zx_rho E j) : i = j := by
  rw [zx_rho_ge hi, zx_rho_ge hj] at h; omega
theorem zx_cell.kept {E : zx_E} {M : zx_M} {i : Nat} {H H1 : Heap} (h : zx_cell E M i H) (hq : H1[zx_rho E i]? = H[zx_rho E i]?) : zx_cell E M i H1 :=
  ⟨fun a => (h.1 a).kept hq, fun a b => by rw [hq]; exact h.2 a b⟩
theorem zx_cell.cong {E : zx_E} {M M1 : zx_M} {i : Nat} {H : Heap} (h : zx_cell E M i H) (hk : zx_kd M1 i = zx_kd M i) (hl : zx_ln M1 i = zx_ln M i) (h1 : M1.1 i = M.1 i) (h2 : M1.2.1 i = M.2.1 i) (h3 : M1.2.2.1 i = M.2.2.1 i) : zx_cell E M1 i H := by
  unfold zx_cell zx_cv at *
  rw [hk, hl, h1, h2, h3]
  exact h
theorem zx_ext.kept {E : zx_E} {M : zx_M} {U : State} {H H1 : Heap} (h : zx_ext E M U H) (hq : ∀ a : Nat, a < H.size → ¬ zx_A E a → H1[a]? = H[a]?) : zx_ext E M U H1 :=
  ⟨fun i hi => ⟨(h.1 i hi).1, va_T.kept (h.1 i hi).2 hq⟩, va_Z.kept h.2.1 hq, va_Z.kept h.2.2.1 hq, h.2.2.2.1.kept hq, h.2.2.2.2.kept hq⟩
theorem zx_ext.moved {E : zx_E} {M : zx_M} {u U : State} {H : Heap} (hvm : u.vm.Alike U.vm) (h : zx_ext E M u H) : zx_ext E M U H :=
  ⟨fun i hi => ⟨(h.1 i hi).1, va_T.moved hvm (h.1 i hi).2⟩, va_Z.moved hvm h.2.1, va_Z.moved hvm h.2.2.1, h.2.2.2.1.moved hvm, h.2.2.2.2.moved hvm⟩
theorem zx_ext.cong {E : zx_E} {M M1 : zx_M} {U : State} {H : Heap} (h : zx_ext E M U H) (hk : ∀ i, i < 3 → zx_kd M1 i = zx_kd M i) (hl : ∀ i, i < 3 → zx_ln M1 i = zx_ln M i) (h1 : ∀ i, i < 3 → M1.1 i = M.1 i) : zx_ext E M1 U H :=
  ⟨fun i hi => by rw [hk i hi, hl i hi, h1 i hi]; exact h.1 i hi, h.2⟩
theorem zx_R.moved {E : zx_E} {M : zx_M} {u U : State} {H : Heap} (hvm : u.vm.Alike U.vm) (h : zx_R E M u H) : zx_R E M U H := ⟨h.1, h.2.1, h.2.2.1.moved hvm, h.2.2.2⟩
theorem zx_R.ltH {E : zx_E} {M : zx_M} {U : State} {H : Heap} (h : zx_R E M U H) {i : Nat} (h3 : 3 ≤ i) (hi : i < zx_n M) : zx_rho E i < H.size := by
  have := h.2.1
  rw [zx_rho_ge h3]; omega
/-- one cell is written: the others stay as they were -/
theorem zx_R.put {E : zx_E} {M M1 : zx_M} {U : State} {H H1 : Heap} (h : zx_R E M U H) {i : Nat} (hi3 : 3 ≤ i)
    (hn : zx_n M1 = zx_n M) (hk : ∀ j, zx_kd M1 j = zx_kd M j) (hl : ∀ j, zx_ln M1 j = zx_ln M j) (h1 : ∀ j, j ≠ i → M1.1 j = M.1 j) (h2 : ∀ j, j ≠ i → M1.2.1 j = M.2.1 j) (h3 : ∀ j, j ≠ i → M1.2.2.1 j = M.2.2.1 j)
    (hz : H1.size = H.size) (oq : ∀ q : Nat, q ≠ zx_rho E i → H1[q]? = H[q]?) (hc : zx_cell E M1 i H1) : zx_R E M1 U H1 := by
  refine ⟨by rw [hn]; exact h.1, by rw [hn, hz]; exact h.2.1, ?_, fun j hj3 hj => ?_⟩
  · refine (h.2.2.1.kept (fun a _ ha => oq a (fun e => ha (by rw [e]; exact zx_rho_in hi3)))).cong (fun j _ => hk j) (fun j _ => hl j) (fun j hj => h1 j (by omega))
  · by_cases e : j = i
    · subst e; exact hc
    · rw [hn] at hj
      exact ((h.2.2.2 j hj3 hj).kept (oq _ (fun q => e (zx_rho_inj hj3 hi3 q)))).cong (hk j) (hl j) (h1 j e) (h2 j e) (h3 j e)
/-- a new cell -/
theorem zx_R.push {E : zx_E} {M : zx_M} {U : State} {H H1 : Heap} {kd ln z : Nat} (h : zx_R E M U H) (hz : H1.size = H.size + 1) (oq : ∀ q : Nat, q < H.size → H1[q]? = H[q]?) (hc : zx_cell E (zx_nw M kd ln z) (zx_n M) H1) : zx_R E (zx_nw M kd ln z) U H1 := by
  have e0 := h.1
  have e1 := h.2.1
  have en : zx_n (zx_nw M kd ln z) = zx_n M + 1 := rfl
  refine ⟨by omega, by omega, ?_, fun j hj3 hj => ?_⟩
  · refine (h.2.2.1.kept (fun a ha _ => oq a ha)).cong ?_ ?_ ?_ <;> intro j hj <;> have hne : j ≠ zx_n M := by omega
    · simp [zx_kd, zx_nw, zx_u1, hne]
    · simp [zx_ln, zx_nw, zx_u1, hne]
    · simp [zx_nw, zx_ur, hne]
  · by_cases e : j = zx_n M
    · subst e; exact hc
    · have hj' : j < zx_n M := by omega
      refine ((h.2.2.2 j hj3 hj').kept (oq _ (h.ltH hj3 hj'))).cong ?_ ?_ ?_ ?_ ?_ <;> simp [zx_kd, zx_ln, zx_nw, zx_u1, zx_ur, e]
theorem zx_R.at {E : zx_E} {M : zx_M} {U : State} {H : Heap} (h : zx_R E M U H) : H.size = zx_rho E (zx_n M) := by
  rw [zx_rho_ge h.1]; have := h.1; have := h.2.1; omega
/-! ===== locals ===== -/
def zx_L (E : zx_E) (nL : Nat) (ls : List (Option Value)) (la : Array Slot) : Prop := la.size = nL ∧ lv_wf la ∧ ∀ (i : Nat) (v : Value), ls[i]? = some (some v) → la[i]? = some (.val (zx_v E v))
def zx_lv (E : zx_E) (ls : List (Option Value)) : List (Nat × Value) := (List.range ls.length).filterMap (fun i => match ls[i]? with
  | some (some v) => some (i, zx_v E v)
  | _ => none)
theorem zx_lv_mem {E : zx_E} {ls : List (Option Value)} {i : Nat} {v : Value} (h : ls[i]? = some (some v)) : (i, zx_v E v) ∈ zx_lv E ls := by
  refine List.mem_filterMap.mpr ⟨i, List.mem_range.mpr (List.getElem?_eq_some_iff.mp h).1, ?_⟩
  rw [h]
theorem zx_L.has {E : zx_E} {nL : Nat} {ls : List (Option Value)} {la : Array Slot} (h : zx_L E nL ls la) : lv_has la nL (zx_lv E ls) := by
  refine ⟨h.1, h.2.1, fun q hq => ?_⟩
  obtain ⟨i, -, hi⟩ := List.mem_filterMap.mp hq
  split at hi
  · rename_i v hv
    cases hi
    exact h.2.2 i v hv
  · cases hi
theorem zx_cat (E : zx_E) (v : Value) : (zx_v E v).category = v.category := by cases v <;> rfl
/-- a store of one slot, of two slots -/
def zx_s1 (ls : List (Option Value)) (i : Nat) (v : Value) : List (Option Value) := match i with
  | 0 => ls.set 0 (some v)
  | j + 1 => match ls[j]? with
    | some (some (.long _)) => (ls.set j none).set (j + 1) (some v)
    | some (some (.double _)) => (ls.set j none).set (j + 1) (some v)
    | _ => ls.set (j + 1) (some v)
def zx_s2 (ls : List (Option Value)) (i : Nat) (v : Value) : List (Option Value) := (zx_s1 ls i v).set (i + 1) none
theorem zx_s1_get {ls : List (Option Value)} {i j : Nat} {v w : Value} (h : (zx_s1 ls i v)[j]? = some (some w)) : (j = i ∧ w = v) ∨ (j ≠ i ∧ ls[j]? = some (some w) ∧ ¬ (j + 1 = i ∧ w.category = 2)) := by
  have key : ∀ ls' : List (Option Value), (ls'.set i (some v))[j]? = some (some w) → (j = i ∧ w = v) ∨ (j ≠ i ∧ ls'[j]? = some (some w)) := by
    intro ls' h
    by_cases e : j = i
    · subst e
      rw [List.getElem?_set] at h
      simp only [if_pos] at h
      split at h
      · cases h; exact Or.inl ⟨rfl, rfl⟩
      · cases h
    · rw [List.getElem?_set_ne (Ne.symm e)] at h
      exact Or.inr ⟨e, h⟩
  have key2 : ∀ jj, (ls.set jj none)[j]? = some (some w) → j ≠ jj ∧ ls[j]? = some (some w) := by
    intro jj h
    by_cases e : j = jj
    · subst e
      rw [List.getElem?_set] at h
      simp only [if_pos] at h
      split at h <;> cases h
    · rw [List.getElem?_set_ne (Ne.symm e)] at h
      exact ⟨e, h⟩
  match i with
  | 0 =>
    rcases key ls h with g | ⟨g1, g2⟩
    · exact Or.inl g
    · exact Or.inr ⟨g1, g2, fun q => by omega⟩
  | jj + 1 =>
    simp only [zx_s1] at h
    split at h
    · rcases key _ h with g | ⟨g1, g2⟩
      · exact Or.inl g
      · obtain ⟨g3, g4⟩ := key2 jj g2
        exact Or.inr ⟨g1, g4, fun q => g3 (by omega)⟩
    · rcases key _ h with g | ⟨g1, g2⟩
      · exact Or.inl g
      · obtain ⟨g3, g4⟩ := key2 jj g2
        exact Or.inr ⟨g1, g4, fun q => g3 (by omega)⟩
    · rename_i n1 n2
      rcases key _ h with g | ⟨g1, g2⟩
      · exact Or.inl g
      · refine Or.inr ⟨g1, g2, fun q => ?_⟩
        have e : j = jj := by omega
        subst e
        cases w with
        | long x => exact n1 x g2
        | double x => exact n2 x g2
        | _ => simp [Value.category] at q
theorem zx_L.s1 {E : zx_E} {nL : Nat} {ls : List (Option Value)} {la : Array Slot} {i : Nat} {v : Value} (h : lv_has la nL ((i, zx_v E v) :: (zx_lv E ls).filter (fun q => !(q.1 == i) && !(q.1 + 1 == i && q.2.category == 2)))) : zx_L E nL (zx_s1 ls i v) la := by
  refine ⟨h.1, h.2.1, fun j w hj => ?_⟩
  rcases zx_s1_get hj with ⟨rfl, rfl⟩ | ⟨h1, h2, h3⟩
  · exact h.2.2 (j, zx_v E w) List.mem_cons_self
  · refine h.2.2 (j, zx_v E w) (List.mem_cons_of_mem _ (List.mem_filter.mpr ⟨zx_lv_mem h2, ?_⟩))
    simp only [zx_cat, Bool.and_eq_true, Bool.not_eq_true', beq_eq_false_iff_ne, ne_eq, Bool.and_eq_false_iff]
    refine ⟨h1, ?_⟩
    by_cases e : j + 1 = i
    · exact Or.inr (fun q => h3 ⟨e, q⟩)
    · exact Or.inl e
theorem zx_L.s2 {E : zx_E} {nL : Nat} {ls : List (Option Value)} {la : Array Slot} {i : Nat} {v : Value} (h : lv_has la nL ((i, zx_v E v) :: (zx_lv E ls).filter (fun q => !(q.1 == i) && (!(q.1 == i + 1) && !(q.1 + 1 == i && q.2.category == 2))))) : zx_L E nL (zx_s2 ls i v) la := by
  refine ⟨h.1, h.2.1, fun j w hj => ?_⟩
  have hj2 : j ≠ i + 1 ∧ (zx_s1 ls i v)[j]? = some (some w) := by
    unfold zx_s2 at hj
    by_cases e : j = i + 1
    · subst e
      rw [List.getElem?_set] at hj
      simp only [if_pos] at hj
      split at hj <;> cases hj
    · rw [List.getElem?_set_ne (Ne.symm e)] at hj
      exact ⟨e, hj⟩
  rcases zx_s1_get hj2.2 with ⟨rfl, rfl⟩ | ⟨h1, h2, h3⟩
  · exact h.2.2 (j, zx_v E w) List.mem_cons_self
  · refine h.2.2 (j, zx_v E w) (List.mem_cons_of_mem _ (List.mem_filter.mpr ⟨zx_lv_mem h2, ?_⟩))
    simp only [zx_cat, Bool.and_eq_true, Bool.not_eq_true', beq_eq_false_iff_ne, ne_eq, Bool.and_eq_false_iff]
    refine ⟨h1, hj2.1, ?_⟩
    by_cases e : j + 1 = i
    · exact Or.inr (fun q => h3 ⟨e, q⟩)
    · exact Or.inl e
