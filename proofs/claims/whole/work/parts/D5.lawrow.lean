/-! ===== the law's own row ===== -/
def zl_row : MethodName := ⟨"NamesThatShrinkLaw", "row", "(LNamesThatShrink;I[J)I"⟩
def zl_rw : List Jvm.Cond := .codeWith zl_row method_4_code 4 (some .int) [(0, 9, 12, 13)] :: zx_good
set_option maxRecDepth 100000 in
theorem zl_row_x {l : Launch} {E : zx_E} {d : Nat} {I : Nat → Nat → Int32} {L : Nat → Nat → Int64} {Y : zx_Y} {x : Int32} (hY : zx_lay Y)
    (hM : vx_Met l (zx_y 154) (zx_ws 154) ({ frames := d, cells := 1, slots := 6, locals := 64 * d }) (zx_Pc E [.ref 3, .int x] (I, L, Y)) (fun _ _ _ _ => False) (zx_XC E (I, L, Y)) 1 6 (zx_A E)) :
    Met l zl_row zl_rw ({ frames := d + 1, cells := 1, slots := 6, locals := 64 * (d + 1) }) (zx_Pc E [.ref 3, .int x, .ref 159] (I, L, Y)) (zx_Qc E (some (.int 1)) (zx_th (I, L, Y))) 1 6 (zx_A E) := by
  refine va_MetW (cc := method_4_code) (maxL := 4) (ret := some .int) (hh := [(0, 9, 12, 13)]) (by decide) rfl ?_
  intro p e s m args below meth c s₁ B hml hv
  obtain ⟨rfl, hR, hK⟩ := hv
  have hx := B.exec
  have hb := B.bytes
  have hret := B.returns
  have hts := atoms_spec (ws := zl_rw) B.pre
  have hts1 : ∀ w ∈ zx_good, w.before (([Value.ref 3, .int x, .ref 159].map (zx_v E)).toArray) s = true := fun w hw => hts w (List.mem_cons_of_mem _ hw)
  have hown : s.vm.findClass "NamesThatShrinkLaw" = some m.cls := findClass_of_methodNamed B.named
  have htab := vx_table (x := zl_row) B (hts _ List.mem_cons_self)
  have hl0 := lv_entry ([Value.ref 3, .int x, .ref 159].map (zx_v E)) (n := 4) (by rw [zx_en_len]; exact (by decide : 3 ≤ 4))
  rw [lg_entry_eq]
  generalize (lg_sl ([Value.ref 3, .int x, .ref 159].map (zx_v E)) ++ List.replicate (4 - (lg_sl ([Value.ref 3, .int x, .ref 159].map (zx_v E))).length) Slot.unset).toArray = la at hl0 ⊢
  have hL := zx_ent_L hl0
  have g0 : la[0]? = some (.val (.ref (zx_rho E 3))) := hL.2.2 0 (.ref 3) rfl
  have g1 : la[1]? = some (.val (.int x)) := hL.2.2 1 (.int x) rfl
  have g3 : la[2]? = some (.val (.ref (zx_rho E 159))) := hL.2.2 2 (.ref 159) rfl
  refine lv_aload_n (i := 2) hx hb (cc := method_4_code) (k := 2) (by decide +kernel) rfl g3 ?_
  refine lv_iconst hx hb (cc := method_4_code) (n := 0) (v := 0) (by decide +kernel) (by decide) ?_
  refine lv_aload_n (i := 0) hx hb (cc := method_4_code) (k := 0) (by decide +kernel) rfl g0 ?_
  refine lv_iload_n (i := 1) hx hb (cc := method_4_code) (k := 1) (by decide +kernel) rfl g1 ?_
  have hmk : zx_mok 154 = true := by decide +kernel
  have hm := zx_mok_code hmk
  obtain ⟨hinst, hsel, hc13, hcn⟩ := hm.2.2.2.2.2.2 rfl
  have hd5 : decode method_4_code 4 = .ok (.invokevirtual 15, 3) := by decide +kernel
  have hlk : Jvm.Cond.methodLink "NamesThatShrinkLaw" 15 (zx_y 154) ∈ zx_good := zl_in (by decide +kernel)
  have hrun := vx_runV (p := p) (e := e) (R := { frames := d + 1, cells := 1, slots := 6, locals := 64 * (d + 1) }) (below := below) (meth := meth) (H := s.heap) (locs := []) (cells := 0) (slots := 0) (g := F0 m 4 la [.int x, .ref (zx_rho E 3), .int 0, .ref (zx_rho E 159)]) (As := [.int x]) (rest := [.int 0, .ref (zx_rho E 159)]) (n := 1) (index := 15) (bytes := zx_b 154) (maxL := zx_mL 154) (ret := zx_rt 154) ⟨hx, hb, hml, hown, hts1⟩ hM
    (cwV 1 hts1 (zx_gi (fun w h => by
      simp only [wsV, List.mem_append, List.mem_cons, List.not_mem_nil, or_false] at h
      rcases h with (h | h | h | h) | h
      · rw [h]; exact hlk
      · rw [h]; exact hinst
      · rw [h]; exact hsel.resolve_left (by decide)
      · rw [h]; exact hm.2.1
      · rcases List.mem_cons.mp h with h | h
        · rw [h]; exact hm.1
        · exact h)) rfl rfl rfl ⟨rfl, hm.2.2.1⟩ ⟨Nat.le_refl _, by show 8 + (2 + 11) + 64 * d ≤ 64 * (d + 1); omega⟩)
    ⟨zx_blind, by
      obtain ⟨cell, q1, q2, q3, -⟩ := zx_ob hR (zx_lis hY 3 11 rfl rfl) (by decide)
      exact ⟨cell, q1, by rw [q3]; rfl, by rw [q2, ← hcn]; exact (hK.1.1 _ _ (zx_cl_at hc13)).2.1⟩, zx_pre (as := [.ref 3, .int x]) hR hK⟩ rfl rfl hL.1 rfl (lv_room (show 2 ≤ 8 by decide)) hd5 ⟨Nat.le_refl _, Nat.le_refl _⟩
  intro T hT X
  rcases hrun T hT X with ⟨v, st₀, t, T', Ls, h0, X', hLs, e1, e2, hF, st⟩ | ⟨q, st₀, t, T', Ls, C, ce, h0, X', hLs, e1, e2, ⟨rfl, hR1⟩, hce, hcv, hcl, st⟩
  · exact hF.elim
  · have hR2 : zx_R E (zx_th (I, L, Y)) s T'.heap := by rw [e1]; exact hR1.moved (by rw [← e2]; exact X'.warmed.alike.symm)
    have hB2 : zx_B E ([] ++ Ls) := fun z hz => by rw [List.nil_append] at hz; exact hLs z hz
    have hk : vx_W p l e { frames := d + 1, cells := 1, slots := 6, locals := 64 * (d + 1) } s m (([Value.ref 3, .int x, .ref 159].map (zx_v E)).toArray) below meth c T'.heap ([] ++ Ls) (0 + 1) (0 + 6) (MQ below (zx_Qc E (some (.int 1)) (zx_th (I, L, Y))) (([Value.ref 3, .int x, .ref 159].map (zx_v E)).toArray) s 1 6 (zx_A E)) (F0 m 4 la [.int 0, .ref (zx_rho E 159)]) q := by
      refine vx_catch (own := "NamesThatShrinkLaw") (name := zx_nse) (E := zx_nse) (ce := ce) hown [] { startPc := 0, endPc := 9, handlerPc := 12, catchType := 13 } [] (by rw [htab]; rfl) (fun z hz => by cases hz) (by decide) (by decide) (hts1 _ (zl_in (by decide +kernel))) (zx_at_good hts1 hK (L := [Jvm.Cond.castable zx_nse zx_nse]) (by decide +kernel) _ (by simp)) (by rw [e1]; exact hce) hcv hcl ?_
      refine lv_astore_n hx hb (cc := method_4_code) (i := 3) (k := 3) (by decide +kernel) rfl hl0 (by decide) rfl (fun la' hl' => ?_)
      refine lv_iconst hx hb (cc := method_4_code) (n := 1) (v := 1) (by decide +kernel) (by decide) ?_
      exact W.zret hx hb (by rw [hret]) rfl (fun t ht hW => ⟨rfl, by rw [ht]; exact hR2.moved hW.alike⟩) hB2 (by decide +kernel)
    obtain ⟨t2, a1, b1⟩ := hk T' rfl X'
    exact ⟨t2, st.trans a1, b1⟩
set_option maxRecDepth 100000 in
theorem zl_row_n {l : Launch} {E : zx_E} {d : Nat} {I : Nat → Nat → Int32} {L : Nat → Nat → Int64} {Y : zx_Y} {x v : Int32} (hY : zx_lay Y)
    (hz : zx_Ci l E d 154 [.ref 3, .int x] (I, L, Y) (fun w M' => w = v ∧ M' = (I, L, Y))) :
    Met l zl_row zl_rw ({ frames := d + 1, cells := 0, slots := 0, locals := 64 * (d + 1) }) (zx_Pc E [.ref 3, .int x, .ref 159] (I, L, Y)) (zx_Qc E (some (.int 0)) (zx_pl (I, L, Y) 159 0 v.toInt64)) 0 0 (zx_A E) := by
  have hmk : zx_mok 154 = true := by decide +kernel
  have hm := zx_mok_code hmk
  obtain ⟨hinst, hsel, hc13, hcn⟩ := hm.2.2.2.2.2.2 rfl
  obtain ⟨r1, M1, ⟨hr1, hM1⟩, hrok, hZ⟩ := zx_rsame hz
  rw [hr1, hM1] at hZ
  rw [hr1] at hrok
  have hM := zx_met (as := [.ref 3, .int x]) hmk (by decide : 2 ≤ zx_mL 154) hrok hZ
  rw [Nat.sub_self, Nat.sub_self] at hM
  refine va_MetW (cc := method_4_code) (maxL := 4) (ret := some .int) (hh := [(0, 9, 12, 13)]) (by decide) rfl ?_
  intro p e s m args below meth c s₁ B hml hv
  obtain ⟨rfl, hR, hK⟩ := hv
  have hx := B.exec
  have hb := B.bytes
  have hret := B.returns
  have hts := atoms_spec (ws := zl_rw) B.pre
  have hts1 : ∀ w ∈ zx_good, w.before (([Value.ref 3, .int x, .ref 159].map (zx_v E)).toArray) s = true := fun w hw => hts w (List.mem_cons_of_mem _ hw)
  have hown : s.vm.findClass "NamesThatShrinkLaw" = some m.cls := findClass_of_methodNamed B.named
  have hl0 := lv_entry ([Value.ref 3, .int x, .ref 159].map (zx_v E)) (n := 4) (by rw [zx_en_len]; exact (by decide : 3 ≤ 4))
  rw [lg_entry_eq]
  generalize (lg_sl ([Value.ref 3, .int x, .ref 159].map (zx_v E)) ++ List.replicate (4 - (lg_sl ([Value.ref 3, .int x, .ref 159].map (zx_v E))).length) Slot.unset).toArray = la at hl0 ⊢
  have hL := zx_ent_L hl0
  have g0 : la[0]? = some (.val (.ref (zx_rho E 3))) := hL.2.2 0 (.ref 3) rfl
  have g1 : la[1]? = some (.val (.int x)) := hL.2.2 1 (.int x) rfl
  have g3 : la[2]? = some (.val (.ref (zx_rho E 159))) := hL.2.2 2 (.ref 159) rfl
  refine lv_aload_n (i := 2) hx hb (cc := method_4_code) (k := 2) (by decide +kernel) rfl g3 ?_
  refine lv_iconst hx hb (cc := method_4_code) (n := 0) (v := 0) (by decide +kernel) (by decide) ?_
  refine lv_aload_n (i := 0) hx hb (cc := method_4_code) (k := 0) (by decide +kernel) rfl g0 ?_
  refine lv_iload_n (i := 1) hx hb (cc := method_4_code) (k := 1) (by decide +kernel) rfl g1 ?_
  have hd5 : decode method_4_code 4 = .ok (.invokevirtual 15, 3) := by decide +kernel
  have hlk : Jvm.Cond.methodLink "NamesThatShrinkLaw" 15 (zx_y 154) ∈ zx_good := zl_in (by decide +kernel)
  refine zx_run (mc := 0) (ms := 0) (r1 := some (.int v)) (M1 := (I, L, Y)) (va_runV (As := [.int x]) (rest := [.int 0, .ref (zx_rho E 159)]) (n := 1) (index := 15) ⟨hx, hb, hml, hown, hts1⟩ hM
    (cwV 1 hts1 (zx_gi (fun w h => by
      simp only [wsV, List.mem_append, List.mem_cons, List.not_mem_nil, or_false] at h
      rcases h with (h | h | h | h) | h
      · rw [h]; exact hlk
      · rw [h]; exact hinst
      · rw [h]; exact hsel.resolve_left (by decide)
      · rw [h]; exact hm.2.1
      · rcases List.mem_cons.mp h with h | h
        · rw [h]; exact hm.1
        · exact h)) rfl rfl rfl ⟨rfl, hm.2.2.1⟩ ⟨Nat.le_refl _, by show 8 + (2 + 11) + 64 * d ≤ 64 * (d + 1); omega⟩)
    ⟨zx_blind, by
      obtain ⟨cell, q1, q2, q3, -⟩ := zx_ob hR (zx_lis hY 3 11 rfl rfl) (by decide)
      exact ⟨cell, q1, by rw [q3]; rfl, by rw [q2, ← hcn]; exact (hK.1.1 _ _ (zx_cl_at hc13)).2.1⟩, zx_pre (as := [.ref 3, .int x]) hR hK⟩ rfl rfl hL.1 rfl (lv_room (show 2 ≤ 8 by decide)) hd5 ⟨Nat.le_refl _, Nat.le_refl _⟩) (fun _ h => by cases h) (fun H1 locs1 hR1 hB1 => ?_)
  show W p l e _ s m _ below meth c H1 locs1 0 0 _ (F0 m 7 la [.int v, .int 0, .ref (zx_rho E 159)])
  refine lv_i2l hx hb (cc := method_4_code) (by decide +kernel) rfl ?_
  refine zx_lastW hx hb (cc := method_4_code) (j := 0) hK hR1 hB1 (by decide +kernel) (zx_lis hY 159 21 rfl rfl) (zx_lin hY 159 1 rfl rfl (show ¬ ((0 : Int32) < 0 ∨ 1 ≤ (0 : Int32).toNatClampNeg) by decide)) (fun H2 locs2 hR2 hB2 => ?_)
  refine lv_goto hx hb (cc := method_4_code) (off := 6) (tgt := 15) (by decide +kernel) rfl ?_
  refine lv_iconst hx hb (cc := method_4_code) (n := 0) (v := 0) (by decide +kernel) (by decide) ?_
  exact W.zret hx hb (by rw [hret]) rfl (fun t ht hW => ⟨rfl, by rw [ht]; exact hR2.moved hW.alike⟩) hB2 (by decide +kernel)
