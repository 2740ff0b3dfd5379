/-! ===== the law's own of, where nothing is thrown ===== -/
section ZLN
variable {p : Program} {l : Launch} {e : Env} {R : Room} {s : State} {m : MethodId} {args : Array Value} {below : List Frame} {meth : Method} {c : Code} {H : Heap} {locs : List Loc}
theorem zx_lastW {E : zx_E} {cc : ByteArray} {pc i : Nat} {j : Int32} {x : Int64} {M : zx_M} {la : Array Slot} {st : List Value} {cells slots : Nat} {Q : State → Prop} (hx : p.tables.exec = Jvm.exec) (hb : c.code = cc) (hK : zx_K E s) (hR : zx_R E M s H) (hB : zx_B E locs) (hd : decode cc pc = .ok (.lastore, 1)) (hi : zx_is M i 21) (hj : vp_in j (zx_ln M i))
    (kk : ∀ (H1 : Heap) (locs1 : List Loc), zx_R E (zx_pl M i j.toNatClampNeg x) s H1 → zx_B E locs1 → W p l e R s m args below meth c H1 locs1 cells slots Q (F0 m (pc + 1) la st)) :
    W p l e R s m args below meth c H locs cells slots Q (F0 m pc la (.long x :: .int j :: .ref (zx_rho E i) :: st)) := by
  refine W.last hx hb (zx_ar hR hi (by omega) (by omega)) ((zx_arr hK (a := 21) (by omega) (by omega)).1 _ _) (fun q => by cases q) (by rw [arrV_size]; exact hj) rfl rfl hd fun H' e1 e2 e3 => ?_
  refine kk H' _ (zx_ast_R (M1 := zx_pl M i j.toNatClampNeg x) hR hi (by omega) (by omega) rfl (fun _ => rfl) (fun _ => rfl) (fun _ _ => rfl) (fun q hq => ?_) (fun _ _ => rfl) ?_ (fun y hy => ?_) e1 e2 e3) (hB.add hi.1)
  · funext y; simp [zx_pl, zx_u2, hq]
  · simp [zx_cv, zx_pl, zx_u2, zx_tc, zx_at, zx_v]
  · simp [zx_cv, zx_pl, zx_u2, zx_tc, zx_at, hy]
end ZLN
set_option maxRecDepth 100000 in
theorem zl_of_n {l : Launch} {E : zx_E} {d : Nat} {I : Nat → Nat → Int32} {L : Nat → Nat → Int64} {Y : zx_Y} {x y v : Int32} (hY : zx_lay Y)
    (hz : zx_Ci l E d 122 [.ref 3, .int x, .int y] (I, L, Y) (fun w M' => w = v ∧ M' = (I, L, Y))) :
    Met l zl_ofM zl_ow ({ frames := d + 1, cells := 0, slots := 0, locals := 64 * (d + 1) }) (zx_Pc E [.ref 3, .int x, .int y, .ref 159] (I, L, Y)) (zx_Qc E (some (.int 0)) (zx_pl (I, L, Y) 159 0 v.toInt64)) 0 0 (zx_A E) := by
  have hmk : zx_mok 122 = true := by decide +kernel
  have hm := zx_mok_code hmk
  obtain ⟨hinst, hsel, hc13, hcn⟩ := hm.2.2.2.2.2.2 rfl
  obtain ⟨r1, M1, ⟨hr1, hM1⟩, hrok, hZ⟩ := zx_rsame hz
  rw [hr1, hM1] at hZ
  rw [hr1] at hrok
  have hM := zx_met (as := [.ref 3, .int x, .int y]) hmk (by decide : 3 ≤ zx_mL 122) hrok hZ
  rw [Nat.sub_self, Nat.sub_self] at hM
  refine va_MetW (cc := method_3_code) (maxL := 5) (ret := some .int) (hh := [(0, 10, 13, 13)]) (by decide) rfl ?_
  intro p e s m args below meth c s₁ B hml hv
  obtain ⟨rfl, hR, hK⟩ := hv
  have hx := B.exec
  have hb := B.bytes
  have hret := B.returns
  have hts := atoms_spec (ws := zl_ow) B.pre
  have hts1 : ∀ w ∈ zx_good, w.before (([Value.ref 3, .int x, .int y, .ref 159].map (zx_v E)).toArray) s = true := fun w hw => hts w (List.mem_cons_of_mem _ hw)
  have hown : s.vm.findClass "NamesThatShrinkLaw" = some m.cls := findClass_of_methodNamed B.named
  have hl0 := lv_entry ([Value.ref 3, .int x, .int y, .ref 159].map (zx_v E)) (n := 5) (by rw [zx_en_len]; exact (by decide : 4 ≤ 5))
  rw [lg_entry_eq]
  generalize (lg_sl ([Value.ref 3, .int x, .int y, .ref 159].map (zx_v E)) ++ List.replicate (5 - (lg_sl ([Value.ref 3, .int x, .int y, .ref 159].map (zx_v E))).length) Slot.unset).toArray = la at hl0 ⊢
  have hL := zx_ent_L hl0
  have g0 : la[0]? = some (.val (.ref (zx_rho E 3))) := hL.2.2 0 (.ref 3) rfl
  have g1 : la[1]? = some (.val (.int x)) := hL.2.2 1 (.int x) rfl
  have g2 : la[2]? = some (.val (.int y)) := hL.2.2 2 (.int y) rfl
  have g3 : la[3]? = some (.val (.ref (zx_rho E 159))) := hL.2.2 3 (.ref 159) rfl
  refine lv_aload_n (i := 3) hx hb (cc := method_3_code) (k := 3) (by decide +kernel) rfl g3 ?_
  refine lv_iconst hx hb (cc := method_3_code) (n := 0) (v := 0) (by decide +kernel) (by decide) ?_
  refine lv_aload_n (i := 0) hx hb (cc := method_3_code) (k := 0) (by decide +kernel) rfl g0 ?_
  refine lv_iload_n (i := 1) hx hb (cc := method_3_code) (k := 1) (by decide +kernel) rfl g1 ?_
  refine lv_iload_n (i := 2) hx hb (cc := method_3_code) (k := 2) (by decide +kernel) rfl g2 ?_
  have hd5 : decode method_3_code 5 = .ok (.invokevirtual 7, 3) := by decide +kernel
  have hlk : Jvm.Cond.methodLink "NamesThatShrinkLaw" 7 (zx_y 122) ∈ zx_good := zl_in (by decide +kernel)
  refine zx_run (mc := 0) (ms := 0) (r1 := some (.int v)) (M1 := (I, L, Y)) (va_runV (As := [.int x, .int y]) (rest := [.int 0, .ref (zx_rho E 159)]) (n := 2) (index := 7) ⟨hx, hb, hml, hown, hts1⟩ hM
    (cwV 2 hts1 (zx_gi (fun w h => by
      simp only [wsV, List.mem_append, List.mem_cons, List.not_mem_nil, or_false] at h
      rcases h with (h | h | h | h) | h
      · rw [h]; exact hlk
      · rw [h]; exact hinst
      · rw [h]; exact hsel.resolve_left (by decide)
      · rw [h]; exact hm.2.1
      · rcases List.mem_cons.mp h with h | h
        · rw [h]; exact hm.1
        · exact h)) rfl rfl rfl ⟨rfl, hm.2.2.1⟩ ⟨Nat.le_refl _, by show 8 + (3 + 11) + 64 * d ≤ 64 * (d + 1); omega⟩)
    ⟨zx_blind, by
      obtain ⟨cell, q1, q2, q3, -⟩ := zx_ob hR (zx_lis hY 3 11 rfl rfl) (by decide)
      exact ⟨cell, q1, by rw [q3]; rfl, by rw [q2, ← hcn]; exact (hK.1.1 _ _ (zx_cl_at hc13)).2.1⟩, zx_pre (as := [.ref 3, .int x, .int y]) hR hK⟩ rfl rfl hL.1 rfl (lv_room (show 2 ≤ 8 by decide)) hd5 ⟨Nat.le_refl _, Nat.le_refl _⟩) (fun _ h => by cases h) (fun H1 locs1 hR1 hB1 => ?_)
  show W p l e _ s m _ below meth c H1 locs1 0 0 _ (F0 m 8 la [.int v, .int 0, .ref (zx_rho E 159)])
  refine lv_i2l hx hb (cc := method_3_code) (by decide +kernel) rfl ?_
  refine zx_lastW hx hb (cc := method_3_code) (j := 0) hK hR1 hB1 (by decide +kernel) (zx_lis hY 159 21 rfl rfl) (zx_lin hY 159 1 rfl rfl (show ¬ ((0 : Int32) < 0 ∨ 1 ≤ (0 : Int32).toNatClampNeg) by decide)) (fun H2 locs2 hR2 hB2 => ?_)
  refine lv_goto hx hb (cc := method_3_code) (off := 7) (tgt := 17) (by decide +kernel) rfl ?_
  refine lv_iconst hx hb (cc := method_3_code) (n := 0) (v := 0) (by decide +kernel) (by decide) ?_
  exact W.zret hx hb (by rw [hret]) rfl (fun t ht hW => ⟨rfl, by rw [ht]; exact hR2.moved hW.alike⟩) hB2 (by decide +kernel)
