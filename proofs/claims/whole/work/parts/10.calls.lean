/-! ===== a method's contract out of its run; calls ===== -/
theorem zx_nest_alike {w : Jvm.Cond} (hw : w ∈ zx_nest) {s U : State} (h : (∀ (a : String) (i : Nat) (x : MethodName) (b : String), w = .methodLinkNest a i x b → va_Nw w s → va_Nw w U)) (hal : s.vm.Alike U.vm) (hZ : va_Nw w s) : va_Nw w U := by
  have h2 := (List.mem_filter.mp hw).2
  cases w <;> first | (exact h _ _ _ _ rfl hZ) | (simp at h2; done) | (exact va_tabs rfl (rfl : (s.setVm U.vm).vm = U.vm) (by rw [Cond.castable_setVm hal]; exact hZ)) | (exact va_tabs rfl (rfl : (s.setVm U.vm).vm = U.vm) (by rw [Cond.declares_setVm hal]; exact hZ)) | skip
  rename_i ty
  cases ty <;> first | (exact va_AO.moved hal hZ) | (exact Jvm.Stand.arrayOver_alikeB hal hZ) | (simp at h2; done)
theorem zx_K.warm {E : zx_E} {s U : State} (hW : s.WarmedH U.vm) (h : zx_K E s) : zx_K E U :=
  ⟨va_K.moved hW.alike h.1, fun w hw => zx_nest_alike hw (fun _ _ _ _ e q => by subst e; exact va_Nw.warmM hW q) hW.alike (h.2 w hw)⟩
theorem zx_K.same {E : zx_E} {s U : State} (hv : s.vm = U.vm) (h : zx_K E s) : zx_K E U := by
  have hal : s.vm.Alike U.vm := by rw [hv]; exact Vm.Alike.refl U.vm
  exact ⟨va_K.moved hal h.1, fun w hw => zx_nest_alike hw (fun _ _ _ _ e q => by subst e; exact va_Nw.same rfl hv q) hal (h.2 w hw)⟩
def zx_ws (k : Nat) : List Jvm.Cond := .code (zx_y k) (zx_b k) (zx_mL k) (zx_rt k) :: zx_good
def zx_Pc (E : zx_E) (as : List Value) (M : zx_M) : Array Value → State → Prop := va_Pc (as.map (zx_v E)) (fun U => zx_R E M U U.heap ∧ zx_K E U)
def zx_Qc (E : zx_E) (r : Option Value) (M' : zx_M) : Array Value → State → Outcome → State → Prop := fun _ _ o t => o = .returned (r.map (zx_v E)) ∧ zx_R E M' t t.heap
/-- the locals at the entry -/
def zx_en (as : List Value) : List (Option Value) := match as with
  | [] => []
  | v :: vs => match v with
    | .long x => some (.long x) :: none :: zx_en vs
    | .double x => some (.double x) :: none :: zx_en vs
    | w => some w :: zx_en vs
def zx_ent (as : List Value) (n : Nat) : List (Option Value) := zx_en as ++ List.replicate (n - (zx_en as).length) none
theorem zx_en_len (E : zx_E) : ∀ as : List Value, (lg_sl (as.map (zx_v E))).length = (zx_en as).length
  | [] => rfl
  | v :: vs => by
    have ih := zx_en_len E vs
    unfold lg_sl at ih ⊢
    simp only [List.map_cons, List.flatMap_cons, List.length_append, ih, zx_cat]
    cases v <;> simp [zx_en, Value.category] <;> omega
theorem zx_en_mem (E : zx_E) : ∀ (as : List Value) (j i : Nat) (v : Value), (zx_en as)[i]? = some (some v) → (j + i, zx_v E v) ∈ lv_args j (as.map (zx_v E))
  | [], _, _, _, h => by simp [zx_en] at h
  | w :: vs, j, i, v, h => by
    simp only [List.map_cons, lv_args, zx_cat]
    have one : (∀ x, w ≠ .long x) → (∀ x, w ≠ .double x) → (j + i, zx_v E v) ∈ (j, zx_v E w) :: lv_args (if w.category = 2 then j + 2 else j + 1) (vs.map (zx_v E)) := by
      intro n1 n2
      have e : zx_en (w :: vs) = some w :: zx_en vs := by cases w <;> first | rfl | exact absurd rfl (n1 _) | exact absurd rfl (n2 _)
      have hc : ¬ w.category = 2 := by cases w <;> first | (simp [Value.category]; done) | exact absurd rfl (n1 _) | exact absurd rfl (n2 _)
      rw [e] at h
      rw [if_neg hc]
      cases i with
      | zero => simp at h; subst h; exact List.mem_cons_self
      | succ i =>
        simp at h
        have := zx_en_mem E vs (j + 1) i v h
        rw [show j + 1 + i = j + (i + 1) by omega] at this
        exact List.mem_cons_of_mem _ this
    have two : w.category = 2 → (∀ us, zx_en (w :: us) = some w :: none :: zx_en us) → (j + i, zx_v E v) ∈ (j, zx_v E w) :: lv_args (if w.category = 2 then j + 2 else j + 1) (vs.map (zx_v E)) := by
      intro hc e
      rw [e] at h
      rw [if_pos hc]
      match i, h with
      | 0, h => simp at h; subst h; exact List.mem_cons_self
      | 1, h => simp at h
      | i + 2, h =>
        simp at h
        have := zx_en_mem E vs (j + 2) i v h
        rw [show j + 2 + i = j + (i + 2) by omega] at this
        exact List.mem_cons_of_mem _ this
    cases w with
    | long x => exact two rfl (fun _ => rfl)
    | double x => exact two rfl (fun _ => rfl)
    | _ => exact one (fun _ h => by cases h) (fun _ h => by cases h)
theorem zx_ent_L {E : zx_E} {as : List Value} {n : Nat} {la : Array Slot} (h : lv_has la n (lv_args 0 (as.map (zx_v E)))) : zx_L E n (zx_ent as n) la := by
  refine ⟨h.1, h.2.1, fun i v hi => ?_⟩
  have h2 : (zx_en as)[i]? = some (some v) := by
    unfold zx_ent at hi
    by_cases hl : i < (zx_en as).length
    · rw [List.getElem?_append_left hl] at hi; exact hi
    · rw [List.getElem?_append_right (by omega), List.getElem?_replicate] at hi
      split at hi <;> cases hi
  have := zx_en_mem E as 0 i v h2
  rw [Nat.zero_add] at this
  exact h.2.2 _ this
theorem zx_mok_code {k : Nat} (h : zx_mok k = true) : Jvm.Cond.code (zx_y k) (zx_b k) (zx_mL k) (zx_rt k) ∈ zx_good ∧ Jvm.Cond.initialized (zx_y k).cls ∈ zx_good ∧ ((zx_y k).cls ≠ "java/lang/invoke/MethodHandle" ∧ (zx_y k).cls ≠ "java/lang/invoke/VarHandle" ∧ (parseMethodDescriptor (zx_y k).desc).map (fun d => d.parameters.length) = some (zx_np k)) ∧ zx_mL k ≤ 45 ∧ plainName (zx_y k).cls = true ∧
    (zx_st k = true → Jvm.Cond.static (zx_y k) ∈ zx_good) ∧ (zx_st k = false → Jvm.Cond.instanceMethod (zx_y k) ∈ zx_good ∧ ((zx_y k).name = "<init>" ∨ Jvm.Cond.selects (zx_y k).cls (zx_y k) (zx_y k) ∈ zx_good) ∧ zx_mc k < 13 ∧ zx_C (zx_mc k) = (zx_y k).cls) := by
  simp only [zx_mok, Bool.and_eq_true, decide_eq_true_eq, Bool.or_eq_true] at h
  obtain ⟨⟨⟨⟨⟨⟨h1, h2⟩, h3⟩, h4⟩, h5⟩, h6⟩, h7⟩ := h
  refine ⟨zx_w_mem h1, zx_w_mem h3, h4, h5, h6, fun hs => ?_, fun hs => ?_⟩
  · rw [hs] at h2
    exact zx_w_mem h2
  · rw [hs] at h2 h7
    simp only [Bool.and_eq_true, Bool.or_eq_true, decide_eq_true_eq, Bool.false_eq_true, if_false, false_or] at h2 h7
    exact ⟨zx_w_mem h2.1, h2.2.imp id zx_w_mem, h7⟩
theorem zx_met {l : Launch} {E : zx_E} {d k : Nat} {as : List Value} {M M' : zx_M} {r : Option Value} (hk : zx_mok k = true) (hlen : (zx_en as).length ≤ zx_mL k) (hrok : zx_rok k r) (hZ : zx_Z l E d k 0 (zx_ent as (zx_mL k)) [] M r M') :
    Met l (zx_y k) (zx_ws k) ({ frames := d, cells := zx_n M' - zx_n M, slots := zx_sl M' - zx_sl M, locals := 64 * d }) (zx_Pc E as M) (zx_Qc E r M') (zx_n M' - zx_n M) (zx_sl M' - zx_sl M) (zx_A E) := by
  have hm := zx_mok_code hk
  refine Met.ofW (cc := zx_b k) (maxL := zx_mL k) (ret := zx_rt k) hm.2.2.2.2.1 rfl ?_
  intro p e s m args below meth c s₁ B hml hv
  obtain ⟨rfl, hR, hK⟩ := hv
  have hx := B.exec
  have hb := B.bytes
  have hr := B.returns
  have hts := atoms_spec (ws := zx_ws k) B.pre
  have hown : s.vm.findClass (zx_y k).cls = some m.cls := findClass_of_methodNamed B.named
  have hlocks := B.notSynchronized
  have hl := lv_entry (as.map (zx_v E)) (n := zx_mL k) (by rw [zx_en_len]; exact hlen)
  rw [lg_entry_eq]
  generalize (lg_sl (as.map (zx_v E)) ++ List.replicate (zx_mL k - (lg_sl (as.map (zx_v E))).length) Slot.unset).toArray = la at hl ⊢
  refine hZ.2.2 p e _ s m _ below meth c ⟨hx, hb, hml, hown, fun w hw => hts w (List.mem_cons_of_mem _ hw), hK, Nat.le_refl _, Nat.le_refl _, (name_of_methodNamed B.named B.method).1, by have := hR.1; have := hR.2.1; omega⟩ _ _ _ (Nat.le_refl _) (Nat.le_refl _) (fun pc' la' H' locs' hd hR' hB' => ?_) s.heap [] 0 0 la hR (zx_ent_L hl) (fun _ h => by cases h) (Nat.zero_add _) (Nat.zero_add _)
  have hQ : ∀ t : State, t.heap = H' → s.WarmedH t.vm → zx_R E M' t t.heap := fun t ht hW => by rw [ht]; exact hR'.moved hW.alike
  match r, hrok, hd with
  | none, ho, hd => exact W.vret hx hb (by rw [hr]; exact ho) (fun t ht hW => ⟨rfl, hQ t ht hW⟩) hB' hd
  | some (.int v), ho, hd =>
    obtain ⟨ty, ht, hn⟩ := ho
    exact W.zret hx hb (by rw [hr]; exact ht) hn (fun t ht hW => ⟨rfl, hQ t ht hW⟩) hB' hd
  | some (.long v), ho, hd => exact W.lret hx hb (by rw [hr]; exact ho) (fun t ht hW => ⟨rfl, hQ t ht hW⟩) hB' hd
def zx_Ci (l : Launch) (E : zx_E) (d b : Nat) (as : List Value) (M : zx_M) (Q : Int32 → zx_M → Prop) : Prop := zx_To l E d b 0 (zx_ent as (zx_mL b)) [] M (fun r M' => ∃ v, r = some (.int v) ∧ Q v M')
def zx_Cl (l : Launch) (E : zx_E) (d b : Nat) (as : List Value) (M : zx_M) (Q : Int64 → zx_M → Prop) : Prop := zx_To l E d b 0 (zx_ent as (zx_mL b)) [] M (fun r M' => ∃ v, r = some (.long v) ∧ Q v M')
def zx_Cv (l : Launch) (E : zx_E) (d b : Nat) (as : List Value) (M : zx_M) (Q : zx_M → Prop) : Prop := zx_To l E d b 0 (zx_ent as (zx_mL b)) [] M (fun r M' => r = none ∧ Q M')
theorem zx_gi {ws : List Jvm.Cond} (h : ∀ w ∈ ws, w ∈ zx_good) : GoodIn zx_good ws := fun w hw => ⟨h w hw, good_of_word (List.mem_filter.mp (h w hw)).2⟩
theorem zx_blind {E : zx_E} {as : List Value} {M : zx_M} : FrameBlind (zx_Pc E as M) := fun a U g mk q => ⟨q.1, zx_R.moved (u := U) (Vm.Alike.refl U.vm) q.2.1, zx_K.same (s := U) (U := U.calling g mk a) rfl q.2.2⟩
theorem zx_pre {E : zx_E} {as : List Value} {M : zx_M} {s : State} {H : Heap} (hR : zx_R E M s H) (hK : zx_K E s) : ∀ U : State, U.heap = H → s.WarmedH U.vm → zx_Pc E as M (as.map (zx_v E)).toArray U := fun U hU hW => ⟨rfl, by rw [hU]; exact hR.moved hW.alike, hK.warm hW⟩
section ZR
variable {p : Program} {l : Launch} {e : Env} {R : Room} {s : State} {m : MethodId} {args : Array Value} {below : List Frame} {meth : Method} {c : Code} {H : Heap} {locs : List Loc} {cells slots mc ms : Nat} {Q : State → Prop}
theorem zx_run {E : zx_E} {M1 : zx_M} {r1 : Option Value} {a : Array Value} {pc : Nat} {la : Array Slot} {st0 rest : List Value} (hr : va_Run p l e R s m args below meth c H locs cells slots mc ms (F0 m pc la st0) rest (zx_Qc E r1 M1 a) (zx_A E)) (hB : zx_B E locs)
    (kk : ∀ (H1 : Heap) (locs1 : List Loc), zx_R E M1 s H1 → zx_B E locs1 → W p l e R s m args below meth c H1 locs1 (cells + mc) (slots + ms) Q (F0 m (pc + 3) la ((r1.map (zx_v E)).toList ++ rest))) : W p l e R s m args below meth c H locs cells slots Q (F0 m pc la st0) := by
  intro T hT X
  obtain ⟨v, st₀, t, T', L, h0, X', hL, e1, e2, ⟨hv, hR1⟩, st⟩ := hr T hT X
  cases hv
  obtain ⟨t2, a1, b1⟩ := kk T'.heap (locs ++ L) (by rw [e1]; exact hR1.moved (by rw [← e2]; exact X'.warmed.alike.symm)) (fun q hq => by
    rcases List.mem_append.mp hq with h | h
    · exact hB q h
    · exact hL q h) T' rfl X'
  exact ⟨t2, st t2 a1, b1⟩
end ZR
section ZL
variable {l : Launch} {E : zx_E} {d k pc len p0 a b : Nat} {v0 : Int32} {w0 : Int64} {ls : List (Option Value)} {st as : List Value} {M : zx_M} {Qo : Option Value → zx_M → Prop}
/-- behind a call -/
theorem zx_call_gen {st0 : List Value} {Qr : Option Value → zx_M → Prop} (hk : zx_mok b = true) (hlen : (zx_en as).length ≤ zx_mL b) (hz : zx_To l E d b 0 (zx_ent as (zx_mL b)) [] M Qr) (hq : ∀ r1 M1, Qr r1 M1 → zx_To l E (d + 1) k (pc + 3) ls (r1.toList ++ st) M1 Qo)
    (hrun : ∀ (r1 : Option Value) (M1 : zx_M), Met l (zx_y b) (zx_ws b) ({ frames := d, cells := zx_n M1 - zx_n M, slots := zx_sl M1 - zx_sl M, locals := 64 * d }) (zx_Pc E as M) (zx_Qc E r1 M1) (zx_n M1 - zx_n M) (zx_sl M1 - zx_sl M) (zx_A E) →
      ∀ (p : Program) (e : Env) (R : Room) (s : State) (m : MethodId) (args : Array Value) (below : List Frame) (meth : Method) (c : Code), zx_F E (d + 1) k p R s m args meth c → ∀ (H : Heap) (locs : List Loc) (cells slots : Nat) (la : Array Slot), zx_R E M s H → zx_L E (zx_mL k) ls la →
      cells + (zx_n M1 - zx_n M) ≤ R.cells → slots + (zx_sl M1 - zx_sl M) ≤ R.slots →
      ∃ a0, va_Run p l e R s m args below meth c H locs cells slots (zx_n M1 - zx_n M) (zx_sl M1 - zx_sl M) (F0 m pc la (st0.map (zx_v E))) (st.map (zx_v E)) (zx_Qc E r1 M1 a0) (zx_A E)) :
    zx_To l E (d + 1) k pc ls st0 M Qo := by
  obtain ⟨r1, M1, hq1, hrok, hZ⟩ := hz
  obtain ⟨r, M', hQ, ho, h1, h2, h3⟩ := hq r1 M1 hq1
  have hM := zx_met hk hlen hrok hZ
  have n1 := hZ.1
  have s1 := hZ.2.1
  refine ⟨r, M', hQ, ho, by omega, by omega, fun p e R s m args below meth c hF Q CF SF hC hS hret H locs cells slots la hR hL hB e1 e2 => ?_⟩
  obtain ⟨a0, hr⟩ := hrun r1 M1 hM p e R s m args below meth c hF H locs cells slots la hR hL (by omega) (by omega)
  refine zx_run hr hB (fun H1 locs1 hR1 hB1 => ?_)
  have := h3 p e R s m args below meth c hF Q CF SF hC hS hret H1 locs1 (cells + (zx_n M1 - zx_n M)) (slots + (zx_sl M1 - zx_sl M)) la hR1 hL hB1 (by omega) (by omega)
  cases r1 <;> exact this
theorem zx_mapr (E : zx_E) (as st : List Value) (i : Nat) : (as.reverse ++ .ref i :: st).map (zx_v E) = (as.map (zx_v E)).reverse ++ .ref (zx_rho E i) :: st.map (zx_v E) := by
  rw [List.map_append, List.map_reverse]; rfl
theorem zx_maps (E : zx_E) (as st : List Value) : (as.reverse ++ st).map (zx_v E) = (as.map (zx_v E)).reverse ++ st.map (zx_v E) := by
  rw [List.map_append, List.map_reverse]
theorem zx_virt_ok {idx i : Nat} {Qr : Option Value → zx_M → Prop} (hc : zx_chk k (pc, len, .invokevirtual idx, v0, w0, p0, a, b) = true) (hi : zx_is M i (zx_mc b)) (hn : as.length = zx_np b) (hst : zx_sw8 st ≤ 8) (hlen : (zx_en (.ref i :: as)).length ≤ zx_mL b)
    (hz : zx_To l E d b 0 (zx_ent (.ref i :: as) (zx_mL b)) [] M Qr) (hq : ∀ r1 M1, Qr r1 M1 → zx_To l E (d + 1) k (pc + len) ls (r1.toList ++ st) M1 Qo) : zx_To l E (d + 1) k pc ls (as.reverse ++ .ref i :: st) M Qo := by
  obtain ⟨hd, hl⟩ := zx_chk_dec hc
  have ho := zx_chk_opr hc
  simp only [zx_opr, Bool.and_eq_true, decide_eq_true_eq, Bool.not_eq_true'] at ho
  obtain ⟨⟨⟨⟨-, hs0⟩, hmk⟩, hw⟩, hne⟩ := ho
  rcases hl with hl | hl <;> first | (cases hl; done) | skip
  rw [hl] at hd hq
  have hm := zx_mok_code hmk
  obtain ⟨hinst, hsel, hc13, hcn⟩ := hm.2.2.2.2.2.2 hs0
  refine zx_call_gen hmk hlen hz hq (fun r1 M1 hM p e R s m args below meth c hF H locs cells slots la hR hL hC hS => ?_)
  obtain ⟨hx, hb, hml, hown, hts, hK, hfr, hlo, -⟩ := hF
  rw [zx_mapr]
  refine ⟨_, va_runV (As := as.map (zx_v E)) (rest := st.map (zx_v E)) (n := zx_np b) ⟨hx, hb, hml, hown, hts⟩ hM (cwV (zx_np b) hts (zx_gi (fun w h => ?_)) rfl rfl rfl ⟨rfl, hm.2.2.1⟩ ⟨hfr, by have := hm.2.2.2.1; show 8 + (zx_mL b + 11) + 64 * d ≤ _; omega⟩) ⟨zx_blind, ?_, zx_pre (as := .ref i :: as) hR hK⟩ rfl (by rw [List.length_map]; exact hn) hL.1 rfl (lv_room (by rw [zx_sw8_map]; exact hst)) hd ⟨hC, hS⟩⟩
  · simp only [wsV, List.mem_append, List.mem_cons, List.not_mem_nil, or_false] at h
    rcases h with (h | h | h | h) | h
    · rw [h]; exact zx_w_mem hw
    · rw [h]; exact hinst
    · rw [h]; exact hsel.resolve_left hne
    · rw [h]; exact hm.2.1
    · rcases List.mem_cons.mp h with h | h
      · rw [h]; exact hm.1
      · exact h
  · obtain ⟨cell, g1, g2, g3, -⟩ := zx_ob hR hi hc13
    exact ⟨cell, g1, by rw [g3]; rfl, by rw [g2, ← hcn]; exact (hK.1.1 _ _ (zx_cl_at hc13)).2.1⟩
theorem zx_stat_ok {idx : Nat} {Qr : Option Value → zx_M → Prop} (hc : zx_chk k (pc, len, .invokestatic idx, v0, w0, p0, a, b) = true) (ha : a = 2 ∨ a = 4) (hn : as.length = zx_np b) (hst : zx_sw8 st ≤ 8) (hlen : (zx_en as).length ≤ zx_mL b)
    (hz : zx_To l E d b 0 (zx_ent as (zx_mL b)) [] M Qr) (hq : ∀ r1 M1, Qr r1 M1 → zx_To l E (d + 1) k (pc + len) ls (r1.toList ++ st) M1 Qo) : zx_To l E (d + 1) k pc ls (as.reverse ++ st) M Qo := by
  obtain ⟨hd, hl⟩ := zx_chk_dec hc
  have ho := zx_chk_opr hc
  have hsm : zx_st b = true ∧ zx_mok b = true ∧ (a = 2 → zx_w p0 (.methodLink (zx_own k) idx (zx_y b)) = true) ∧ (a = 4 → zx_wn p0 (.methodLinkNest (zx_own k) idx (zx_y b) "NamesThatShrink") = true) := by
    rcases ha with rfl | rfl <;> simp [zx_opr] at ho <;> simp [ho]
  obtain ⟨hs0, hmk, hw2, hw4⟩ := hsm
  rcases hl with hl | hl <;> first | (cases hl; done) | skip
  rw [hl] at hd hq
  have hm := zx_mok_code hmk
  refine zx_call_gen hmk hlen hz hq (fun r1 M1 hM p e R s m args below meth c hF H locs cells slots la hR hL hC hS => ?_)
  obtain ⟨hx, hb, hml, hown, hts, hK, hfr, hlo, -⟩ := hF
  rw [zx_maps]
  have hroom : d + 1 ≤ R.frames ∧ 8 + (zx_mL b + 11) + 64 * d ≤ R.locals := ⟨hfr, by have := hm.2.2.2.1; omega⟩
  have hgw : ∀ w ∈ zx_ws b, w ∈ zx_good := fun w h => by
    rcases List.mem_cons.mp h with h | h
    · rw [h]; exact hm.1
    · exact h
  rcases ha with rfl | rfl
  · refine ⟨_, va_runS (As := as.map (zx_v E)) (rest := st.map (zx_v E)) (n := zx_np b) ⟨hx, hb, hml, hown, hts⟩ hM (va_cwS (zx_np b) hts (zx_gi (fun w h => ?_)) rfl rfl rfl hm.2.2.1 hroom) ⟨zx_blind, zx_pre hR hK⟩ rfl (by rw [List.length_map]; exact hn) hL.1 rfl (lv_room (by rw [zx_sw8_map]; exact hst)) hd ⟨hC, hS⟩⟩
    simp only [va_wsS, List.mem_append, List.mem_cons, List.not_mem_nil, or_false] at h
    rcases h with (h | h | h) | h
    · rw [h]; exact zx_w_mem (hw2 rfl)
    · rw [h]; exact hm.2.2.2.2.2.1 hs0
    · rw [h]; exact hm.2.1
    · exact hgw w h
  · exact ⟨_, va_runSN (As := as.map (zx_v E)) (rest := st.map (zx_v E)) (n := zx_np b) ⟨hx, hb, hml, hown, hts⟩ hM ⟨va_cnB (zx_np b) hts (zx_gi hgw) rfl rfl rfl (hK.2 _ (List.mem_filter.mpr ⟨zx_wn_mem (hw4 rfl), rfl⟩)) (hts _ hm.2.1) hm.2.2.1 hroom, hts _ (hm.2.2.2.2.2.1 hs0), trivial⟩ ⟨zx_blind, zx_pre hR hK⟩ rfl (by rw [List.length_map]; exact hn) hL.1 rfl (lv_room (by rw [zx_sw8_map]; exact hst)) hd ⟨hC, hS⟩⟩
theorem zx_init_ok {idx i : Nat} {Qr : Option Value → zx_M → Prop} (hc : zx_chk k (pc, len, .invokespecial idx, v0, w0, p0, a, b) = true) (ha : a = 1 ∨ a = 3) (hn : as.length = zx_np b) (hst : zx_sw8 st ≤ 8) (hlen : (zx_en (.ref i :: as)).length ≤ zx_mL b)
    (hz : zx_To l E d b 0 (zx_ent (.ref i :: as) (zx_mL b)) [] M Qr) (hq : ∀ r1 M1, Qr r1 M1 → zx_To l E (d + 1) k (pc + len) ls (r1.toList ++ st) M1 Qo) : zx_To l E (d + 1) k pc ls (as.reverse ++ .ref i :: st) M Qo := by
  obtain ⟨hd, hl⟩ := zx_chk_dec hc
  have ho := zx_chk_opr hc
  have hsm : zx_st b = false ∧ zx_mok b = true ∧ (zx_y b).name = "<init>" ∧ zx_rt b = none ∧ (a = 1 → zx_w p0 (.methodLink (zx_own k) idx (zx_y b)) = true) ∧ (a = 3 → zx_wn p0 (.methodLinkNest (zx_own k) idx (zx_y b) "NamesThatShrink") = true) := by
    rcases ha with rfl | rfl <;> simp [zx_opr] at ho <;> simp [ho]
  obtain ⟨hs0, hmk, hnm, hrt, hw1, hw3⟩ := hsm
  rcases hl with hl | hl <;> first | (cases hl; done) | skip
  rw [hl] at hd hq
  have hm := zx_mok_code hmk
  have hinst := (hm.2.2.2.2.2.2 hs0).1
  refine zx_call_gen hmk hlen hz hq (fun r1 M1 hM p e R s m args below meth c hF H locs cells slots la hR hL hC hS => ?_)
  obtain ⟨hx, hb, hml, hown, hts, hK, hfr, hlo, -⟩ := hF
  rw [zx_mapr]
  have hroom : d + 1 ≤ R.frames ∧ 8 + (zx_mL b + 11) + 64 * d ≤ R.locals := ⟨hfr, by have := hm.2.2.2.1; omega⟩
  have hgw : ∀ w ∈ zx_ws b, w ∈ zx_good := fun w h => by
    rcases List.mem_cons.mp h with h | h
    · rw [h]; exact hm.1
    · exact h
  have hw0 : zx_ws b = Jvm.Cond.code (zx_y b) (zx_b b) (zx_mL b) none :: zx_good := by unfold zx_ws; rw [hrt]
  rcases ha with rfl | rfl
  · exact ⟨_, va_runI (As := as.map (zx_v E)) (rest := st.map (zx_v E)) (n := zx_np b) ⟨hx, hb, hml, hown, hts⟩ hM (cwI (zx_np b) hts (zx_gi hgw) hw0 rfl rfl (hts _ hm.2.1) (hts _ (zx_w_mem (hw1 rfl))) (hts _ hinst) hnm hm.2.2.1 hroom) ⟨zx_blind, zx_pre (as := .ref i :: as) hR hK⟩ rfl (by rw [List.length_map]; exact hn) hL.1 rfl (lv_room (by rw [zx_sw8_map]; exact hst)) hd ⟨hC, hS⟩⟩
  · exact ⟨_, va_runIN (As := as.map (zx_v E)) (rest := st.map (zx_v E)) (n := zx_np b) ⟨hx, hb, hml, hown, hts⟩ hM ⟨va_cnB (zx_np b) hts (zx_gi hgw) hw0 rfl rfl (hK.2 _ (List.mem_filter.mpr ⟨zx_wn_mem (hw3 rfl), rfl⟩)) (hts _ hm.2.1) hm.2.2.1 hroom, hnm, hts _ hinst⟩ ⟨zx_blind, zx_pre (as := .ref i :: as) hR hK⟩ rfl (by rw [List.length_map]; exact hn) hL.1 rfl (lv_room (by rw [zx_sw8_map]; exact hst)) hd ⟨hC, hS⟩⟩
theorem zx_ret_ok {r : Option Value} {ins : Instr} (hc : zx_chk k (pc, len, ins, v0, w0, p0, a, b) = true) (hi : ins = zx_ri r) (hst : st = r.toList) (hrok : zx_rok k r) (hq : Qo r M) : zx_To l E d k pc ls st M Qo := by
  obtain ⟨hd, hl⟩ := zx_chk_dec hc
  have hlen : len = 1 := by
    rw [hi] at hl
    rcases hl with hl | hl
    · match r, hl with
      | none, hl => cases hl
      | some (.int _), hl => cases hl
      | some (.long _), hl => cases hl
      | some (.float _), hl => cases hl
      | some (.double _), hl => cases hl
      | some .null, hl => cases hl
      | some (.ref _), hl => cases hl
      | some (.retAddr _), hl => cases hl
    · rw [hl]
      match r with
      | none | some (.int _) | some (.long _) | some (.float _) | some (.double _) | some .null | some (.ref _) | some (.retAddr _) => rfl
  subst hlen
  rw [hi] at hd
  refine ⟨r, M, hq, hrok, Nat.le_refl _, Nat.le_refl _, fun p e R s m args below meth c hF Q CF SF hC hS hret H locs cells slots la hR hL hB e1 e2 => ?_⟩
  have h := hret pc la H locs hd hR hB
  have e3 : CF = cells := by omega
  have e4 : SF = slots := by omega
  rw [e3, e4] at h
  have e5 : (r.map (zx_v E)).toList = st.map (zx_v E) := by rw [hst]; cases r <;> rfl
  rw [e5] at h
  exact h
end ZL
