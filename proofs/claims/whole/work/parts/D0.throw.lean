/-! ===== the throw of of and row ===== -/
def zx_nse : String := "java/util/NoSuchElementException"
def zx_up : List String := ["java/lang/RuntimeException", "java/lang/Exception"]
/-- the memory behind a throw: one cell more, of no kind -/
def zx_th (M : zx_M) : zx_M := zx_nw M 99 0 6
theorem zx_th_R {E : zx_E} {M : zx_M} {U : State} {H H1 : Heap} (h : zx_R E M U H) (hz : H1.size = H.size + 1) (hq : ∀ q : Nat, q < H.size → H1[q]? = H[q]?) : zx_R E (zx_th M) U H1 := by
  have e : zx_kd (zx_nw M 99 0 6) (zx_n M) = 99 := by simp [zx_kd, zx_nw, zx_u1]
  refine zx_R.push h hz hq ⟨fun a => ?_, fun _ a => ?_⟩
  · rw [e] at a; omega
  · rw [e] at a; omega
theorem zx_S_of {p : Program} {l : Launch} {e : Env} {R : Room} {s : State} {m : MethodId} {args : Array Value} {below : List Frame} {meth : Method} {c : Code} {T : State} {locs : List Loc} {cells slots : Nat} {E : zx_E} (X : Stand p l e R s m args below meth c T locs cells slots) (hB : zx_B E locs) : va_S (zx_A E) s.heap T.heap locs := by
  have hs := X.same
  obtain ⟨f1, f2⟩ := vx_frame (U := T) hs
  exact ⟨f1, fun q hq hA => f2 q hq (fun z hz e => hA (by rw [← e]; exact hB z hz)), hB⟩
/-- what is thrown, and the memory then -/
def zx_XC (E : zx_E) (M : zx_M) : String → State → State → Prop := fun C _ t => C = zx_nse ∧ zx_R E (zx_th M) t t.heap
set_option maxRecDepth 100000 in
theorem zx_at_in : ((Jvm.Cond.classLink "NamesThatShrink" 125 zx_nse :: Jvm.Cond.initialized zx_nse :: vx_at0 "NamesThatShrink" 127 zx_nse zx_up).all fun w => decide (w ∈ lw_tbl) && goodWord w || decide (w ∈ zx_nest) && w.onTables) = true := by decide +kernel
set_option maxRecDepth 100000 in
theorem zx_at_ot : ((Jvm.Cond.classLink "NamesThatShrink" 125 zx_nse :: Jvm.Cond.initialized zx_nse :: vx_at0 "NamesThatShrink" 127 zx_nse zx_up).all vx_ot) = true := by decide +kernel
theorem zx_at_good {E : zx_E} {args : Array Value} {s : State} (hts : ∀ w ∈ zx_good, w.before args s = true) (hK : zx_K E s) {L : List Jvm.Cond} (hL : (L.all fun w => decide (w ∈ lw_tbl) && goodWord w || decide (w ∈ zx_nest) && w.onTables) = true) : ∀ w ∈ L, w.before args s = true := by
  intro w hw
  have h := List.all_eq_true.mp hL w hw
  simp only [Bool.or_eq_true, Bool.and_eq_true, decide_eq_true_eq] at h
  rcases h with h | h
  · exact hts w (List.mem_filter.mpr h)
  · exact va_Nw.use h.2 (hK.2 w h.1)
