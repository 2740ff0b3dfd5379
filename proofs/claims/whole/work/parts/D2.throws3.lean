/-! ===== of of the class: where it throws ===== -/
theorem zx_rsame {l : Launch} {E : zx_E} {d b : Nat} {as : List Value} {M : zx_M} {v : Int32} (h : zx_Ci l E d b as M (fun w M' => w = v ∧ M' = M)) : zx_To l E d b 0 (zx_ent as (zx_mL b)) [] M (fun r M' => r = some (.int v) ∧ M' = M) := by
  obtain ⟨r, M', ⟨w, hr, hw, hM⟩, h2⟩ := h
  exact ⟨r, M', ⟨by rw [hr, hw], hM⟩, h2⟩
section ZTO
variable {p : Program} {l : Launch} {e : Env} {R : Room} {s : State} {m : MethodId} {args : Array Value} {below : List Frame} {meth : Method} {c : Code} {H : Heap} {locs : List Loc}
/-- a call that writes nothing and answers an int, seen from a method that may throw -/
theorem zx_virtW {E : zx_E} {d k pc idx i a b p0 : Nat} {v0 : Int32} {w0 : Int64} {v : Int32} {M : zx_M} {ls : List (Option Value)} {la : Array Slot} {as st : List Value} {cells slots : Nat} {Q : State → Prop} (hF : zx_F E (d + 1) k p R s m args meth c) (hR : zx_R E M s H) (hL : zx_L E (zx_mL k) ls la) (hB : zx_B E locs)
    (hc : zx_chk k (pc, 3, .invokevirtual idx, v0, w0, p0, a, b) = true) (hi : zx_is M i (zx_mc b)) (hn : as.length = zx_np b) (hst : zx_sw8 st ≤ 8) (hlen : (zx_en (.ref i :: as)).length ≤ zx_mL b)
    (hz : zx_To l E d b 0 (zx_ent (.ref i :: as) (zx_mL b)) [] M (fun r M' => r = some (.int v) ∧ M' = M)) (hC : cells ≤ R.cells) (hS : slots ≤ R.slots)
    (kk : ∀ (H1 : Heap) (locs1 : List Loc), zx_R E M s H1 → zx_B E locs1 → W p l e R s m args below meth c H1 locs1 cells slots Q (F0 m (pc + 3) la (.int v :: st.map (zx_v E)))) :
    W p l e R s m args below meth c H locs cells slots Q (F0 m pc la ((as.reverse ++ .ref i :: st).map (zx_v E))) := by
  obtain ⟨hd, -⟩ := zx_chk_dec hc
  have ho := zx_chk_opr hc
  simp only [zx_opr, Bool.and_eq_true, decide_eq_true_eq, Bool.not_eq_true'] at ho
  obtain ⟨⟨⟨⟨-, hs0⟩, hmk⟩, hw⟩, hne⟩ := ho
  have hm := zx_mok_code hmk
  obtain ⟨hinst, hsel, hc13, hcn⟩ := hm.2.2.2.2.2.2 hs0
  obtain ⟨r1, M1, ⟨rfl, rfl⟩, hrok, hZ⟩ := hz
  have hM := zx_met hmk hlen hrok hZ
  rw [Nat.sub_self, Nat.sub_self] at hM
  obtain ⟨hx, hb, hml, hown, hts, hK, hfr, hlo, -⟩ := hF
  rw [zx_mapr]
  refine zx_run (mc := 0) (ms := 0) (r1 := some (.int v)) (M1 := M1) (va_runV (As := as.map (zx_v E)) (rest := st.map (zx_v E)) (n := zx_np b) ⟨hx, hb, hml, hown, hts⟩ hM (cwV (zx_np b) hts (zx_gi (fun w h => ?_)) rfl rfl rfl ⟨rfl, hm.2.2.1⟩ ⟨hfr, by have := hm.2.2.2.1; show 8 + (zx_mL b + 11) + 64 * d ≤ _; omega⟩) ⟨zx_blind, ?_, zx_pre (as := .ref i :: as) hR hK⟩ rfl (by rw [List.length_map]; exact hn) hL.1 rfl (lv_room (by rw [zx_sw8_map]; exact hst)) hd ⟨hC, hS⟩) hB (fun H1 locs1 h1 h2 => kk H1 locs1 h1 h2)
  · simp only [wsV, List.mem_append, List.mem_cons, List.not_mem_nil, or_false] at h
    rcases h with (h | h | h | h) | h
    · rw [h]; exact zx_w_mem hw
    · rw [h]; exact hinst
    · rw [h]; exact hsel.resolve_left hne
    · rw [h]; exact hm.2.1
    · rcases List.mem_cons.mp h with h | h
      · rw [h]; exact hm.1
      · exact h
  · obtain ⟨cell, g1, g2, g3, -⟩ := zx_ob hR hi hc13
    exact ⟨cell, g1, by rw [g3]; rfl, by rw [g2, ← hcn]; exact (hK.1.1 _ _ (zx_cl_at hc13)).2.1⟩
end ZTO
set_option maxRecDepth 100000 in
theorem zx_of_x {l : Launch} {E : zx_E} {d : Nat} {I : Nat → Nat → Int32} {L : Nat → Nat → Int64} {Y : zx_Y} {x y bv : Int32} (hl : l.stackTraces = false) (hY : zx_lay Y) (hd : 6 ≤ d + 1) (hh : zx_Ci l E d 1 [.ref 8, .int x] (I, L, Y) (fun w M' => w = bv ∧ M' = (I, L, Y))) (hx0 : bv = 0 ∨ y < 0 ∨ ¬ y ≤ 3) :
    vx_Met l (zx_y 122) (zx_ws 122) ({ frames := d + 1, cells := 1, slots := 6, locals := 64 * (d + 1) }) (zx_Pc E [.ref 3, .int x, .int y] (I, L, Y)) (fun _ _ _ _ => False) (zx_XC E (I, L, Y)) 1 6 (zx_A E) := by
  have hk : zx_mok 122 = true := by decide +kernel
  have hm := zx_mok_code hk
  refine vx_ofW (cc := zx_b 122) (maxL := zx_mL 122) (ret := zx_rt 122) hm.2.2.2.2.1 rfl ?_
  intro p e s m args below meth c s₁ B hml hex hv
  obtain ⟨rfl, hR, hK⟩ := hv
  have hx := B.exec
  have hb := B.bytes
  have hts := atoms_spec (ws := zx_ws 122) B.pre
  have hown : s.vm.findClass (zx_y 122).cls = some m.cls := findClass_of_methodNamed B.named
  have hlocks := B.notSynchronized
  have hl0 := lv_entry ([Value.ref 3, .int x, .int y].map (zx_v E)) (n := zx_mL 122) (by rw [zx_en_len]; exact (by decide : 3 ≤ zx_mL 122))
  rw [lg_entry_eq]
  generalize (lg_sl ([Value.ref 3, .int x, .int y].map (zx_v E)) ++ List.replicate (zx_mL 122 - (lg_sl ([Value.ref 3, .int x, .int y].map (zx_v E))).length) Slot.unset).toArray = la at hl0 ⊢
  have hL := zx_ent_L hl0
  have hF : zx_F E (d + 1) 122 p ({ frames := d + 1, cells := 1, slots := 6, locals := 64 * (d + 1) }) s m (([Value.ref 3, .int x, .int y].map (zx_v E)).toArray) meth c := ⟨hx, hb, hml, hown, fun w hw => hts w (List.mem_cons_of_mem _ hw), hK, Nat.le_refl _, Nat.le_refl _, (name_of_methodNamed B.named B.method).1, by have := hR.1; have := hR.2.1; omega⟩
  have hthr := fun (H : Heap) (locs : List Loc) (hR1 : zx_R E (I, L, Y) s H) (hB1 : zx_B E locs) => zx_thr (M := (I, L, Y)) (H := H) (locs := locs) (pc := 20) (la := la) hl hF rfl (by decide +kernel) (by decide +kernel) (by decide +kernel) (by decide +kernel) hex hlocks hR hR1 hB1 (by rw [hml]; exact hL.1) hd (Nat.le_refl _) (Nat.le_refl _) (below := below) (e := e)
  have g0 : la[0]? = some (.val (.ref (zx_rho E 3))) := hL.2.2 0 (.ref 3) rfl
  have g1 : la[1]? = some (.val (.int x)) := hL.2.2 1 (.int x) rfl
  have g2 : la[2]? = some (.val (.int y)) := hL.2.2 2 (.int y) rfl
  refine lv_aload_n (i := 0) hx hb (cc := zx_b 122) (k := 0) (by decide +kernel) rfl g0 ?_
  refine zx_getf (a := 11) (b := 2) (i := 3) (v := .ref 8) (idx := 26) (w0 := 0) (v0 := 0) (p0 := 531) hF hR (List.all_eq_true.mp zk_122 (1, 3, .getfield 26, 0, 0, 531, 11, 2) (by simp [zt_122])) (zx_lis hY 3 11 rfl rfl) (show va_rf (Y.1 3 2) = _ by rw [zx_lrf hY 2 3 2 8 rfl]; rfl) ?_
  refine lv_iload_n (i := 1) hx hb (cc := zx_b 122) (k := 1) (by decide +kernel) rfl g1 ?_
  refine zx_virtW (as := [.int x]) (st := []) (i := 8) (idx := 122) (a := 0) (b := 1) (v0 := 0) (w0 := 0) (p0 := 672) (v := bv) hF hR hL (fun _ h => by cases h) (List.all_eq_true.mp zk_122 (5, 3, .invokevirtual 122, 0, 0, 672, 0, 1) (by simp [zt_122])) (zx_lis hY 8 0 rfl rfl) rfl (by decide) (by decide : 2 ≤ zx_mL 1) (zx_rsame hh) (Nat.zero_le _) (Nat.zero_le _) (fun H1 locs1 hR1 hB1 => ?_)
  refine lv_if_eq hx hb (cc := zx_b 122) (off := 12) (tgt := 20) (by decide +kernel) rfl (fun _ => hthr H1 locs1 hR1 hB1) (fun n => ?_)
  refine lv_iload_n (i := 2) hx hb (cc := zx_b 122) (k := 2) (by decide +kernel) rfl g2 ?_
  refine lv_if_lt hx hb (cc := zx_b 122) (off := 8) (tgt := 20) (by decide +kernel) rfl (fun _ => hthr H1 locs1 hR1 hB1) (fun n2 => ?_)
  refine lv_iload_n (i := 2) hx hb (cc := zx_b 122) (k := 2) (by decide +kernel) rfl g2 ?_
  refine lv_iconst hx hb (cc := zx_b 122) (n := 3) (v := 3) (by decide +kernel) (by decide) ?_
  refine lv_icmp_le hx hb (cc := zx_b 122) (off := 11) (tgt := 28) (by decide +kernel) rfl (fun q => ?_) (fun _ => hthr H1 locs1 hR1 hB1)
  rcases hx0 with z | z | z
  · exact absurd z n
  · exact absurd z n2
  · exact absurd q z
