/-! ===== the law's own of: it catches ===== -/
def zl_ofM : MethodName := ⟨"NamesThatShrinkLaw", "of", "(LNamesThatShrink;II[J)I"⟩
def zl_ow : List Jvm.Cond := .codeWith zl_ofM method_3_code 5 (some .int) [(0, 10, 13, 13)] :: zx_good
theorem zl_in {w : Jvm.Cond} (h : (decide (w ∈ lw_tbl) && goodWord w) = true) : w ∈ zx_good := by
  simp only [Bool.and_eq_true, decide_eq_true_eq] at h
  exact List.mem_filter.mpr h
set_option maxRecDepth 100000 in
theorem zl_of_x {l : Launch} {E : zx_E} {d : Nat} {I : Nat → Nat → Int32} {L : Nat → Nat → Int64} {Y : zx_Y} {x y : Int32} (hY : zx_lay Y)
    (hM : vx_Met l (zx_y 122) (zx_ws 122) ({ frames := d, cells := 1, slots := 6, locals := 64 * d }) (zx_Pc E [.ref 3, .int x, .int y] (I, L, Y)) (fun _ _ _ _ => False) (zx_XC E (I, L, Y)) 1 6 (zx_A E)) :
    Met l zl_ofM zl_ow ({ frames := d + 1, cells := 1, slots := 6, locals := 64 * (d + 1) }) (zx_Pc E [.ref 3, .int x, .int y, .ref 159] (I, L, Y)) (zx_Qc E (some (.int 1)) (zx_th (I, L, Y))) 1 6 (zx_A E) := by
  refine va_MetW (cc := method_3_code) (maxL := 5) (ret := some .int) (hh := [(0, 10, 13, 13)]) (by decide) rfl ?_
  intro p e s m args below meth c s₁ B hml hv
  obtain ⟨rfl, hR, hK⟩ := hv
  have hx := B.exec
  have hb := B.bytes
  have hret := B.returns
  have hts := atoms_spec (ws := zl_ow) B.pre
  have hts1 : ∀ w ∈ zx_good, w.before (([Value.ref 3, .int x, .int y, .ref 159].map (zx_v E)).toArray) s = true := fun w hw => hts w (List.mem_cons_of_mem _ hw)
  have hown : s.vm.findClass "NamesThatShrinkLaw" = some m.cls := findClass_of_methodNamed B.named
  have htab := vx_table (x := zl_ofM) B (hts _ List.mem_cons_self)
  have hl0 := lv_entry ([Value.ref 3, .int x, .int y, .ref 159].map (zx_v E)) (n := 5) (by rw [zx_en_len]; exact (by decide : 4 ≤ 5))
  rw [lg_entry_eq]
  generalize (lg_sl ([Value.ref 3, .int x, .int y, .ref 159].map (zx_v E)) ++ List.replicate (5 - (lg_sl ([Value.ref 3, .int x, .int y, .ref 159].map (zx_v E))).length) Slot.unset).toArray = la at hl0 ⊢
  have hL := zx_ent_L hl0
  have g0 : la[0]? = some (.val (.ref (zx_rho E 3))) := hL.2.2 0 (.ref 3) rfl
  have g1 : la[1]? = some (.val (.int x)) := hL.2.2 1 (.int x) rfl
  have g2 : la[2]? = some (.val (.int y)) := hL.2.2 2 (.int y) rfl
  have g3 : la[3]? = some (.val (.ref (zx_rho E 159))) := hL.2.2 3 (.ref 159) rfl
  refine lv_aload_n (i := 3) hx hb (cc := method_3_code) (k := 3) (by decide +kernel) rfl g3 ?_
  refine lv_iconst hx hb (cc := method_3_code) (n := 0) (v := 0) (by decide +kernel) (by decide) ?_
  refine lv_aload_n (i := 0) hx hb (cc := method_3_code) (k := 0) (by decide +kernel) rfl g0 ?_
  refine lv_iload_n (i := 1) hx hb (cc := method_3_code) (k := 1) (by decide +kernel) rfl g1 ?_
  refine lv_iload_n (i := 2) hx hb (cc := method_3_code) (k := 2) (by decide +kernel) rfl g2 ?_
  have hmk : zx_mok 122 = true := by decide +kernel
  have hm := zx_mok_code hmk
  obtain ⟨hinst, hsel, hc13, hcn⟩ := hm.2.2.2.2.2.2 rfl
  have hd5 : decode method_3_code 5 = .ok (.invokevirtual 7, 3) := by decide +kernel
  have hlk : Jvm.Cond.methodLink "NamesThatShrinkLaw" 7 (zx_y 122) ∈ zx_good := zl_in (by decide +kernel)
  have hrun := vx_runV (p := p) (e := e) (R := { frames := d + 1, cells := 1, slots := 6, locals := 64 * (d + 1) }) (below := below) (meth := meth) (H := s.heap) (locs := []) (cells := 0) (slots := 0) (g := F0 m 5 la [.int y, .int x, .ref (zx_rho E 3), .int 0, .ref (zx_rho E 159)]) (As := [.int x, .int y]) (rest := [.int 0, .ref (zx_rho E 159)]) (n := 2) (index := 7) (bytes := zx_b 122) (maxL := zx_mL 122) (ret := zx_rt 122) ⟨hx, hb, hml, hown, hts1⟩ hM
    (cwV 2 hts1 (zx_gi (fun w h => by
      simp only [wsV, List.mem_append, List.mem_cons, List.not_mem_nil, or_false] at h
      rcases h with (h | h | h | h) | h
      · rw [h]; exact hlk
      · rw [h]; exact hinst
      · rw [h]; exact hsel.resolve_left (by decide)
      · rw [h]; exact hm.2.1
      · rcases List.mem_cons.mp h with h | h
        · rw [h]; exact hm.1
        · exact h)) rfl rfl rfl ⟨rfl, hm.2.2.1⟩ ⟨Nat.le_refl _, by show 8 + (3 + 11) + 64 * d ≤ 64 * (d + 1); omega⟩)
    ⟨zx_blind, by
      obtain ⟨cell, q1, q2, q3, -⟩ := zx_ob hR (zx_lis hY 3 11 rfl rfl) (by decide)
      exact ⟨cell, q1, by rw [q3]; rfl, by rw [q2, ← hcn]; exact (hK.1.1 _ _ (zx_cl_at hc13)).2.1⟩, zx_pre (as := [.ref 3, .int x, .int y]) hR hK⟩ rfl rfl hL.1 rfl (lv_room (show 2 ≤ 8 by decide)) hd5 ⟨Nat.le_refl _, Nat.le_refl _⟩
  intro T hT X
  rcases hrun T hT X with ⟨v, st₀, t, T', Ls, h0, X', hLs, e1, e2, hF, st⟩ | ⟨q, st₀, t, T', Ls, C, ce, h0, X', hLs, e1, e2, ⟨rfl, hR1⟩, hce, hcv, hcl, st⟩
  · exact hF.elim
  · have hR2 : zx_R E (zx_th (I, L, Y)) s T'.heap := by rw [e1]; exact hR1.moved (by rw [← e2]; exact X'.warmed.alike.symm)
    have hB2 : zx_B E ([] ++ Ls) := fun z hz => by rw [List.nil_append] at hz; exact hLs z hz
    have hk : vx_W p l e { frames := d + 1, cells := 1, slots := 6, locals := 64 * (d + 1) } s m (([Value.ref 3, .int x, .int y, .ref 159].map (zx_v E)).toArray) below meth c T'.heap ([] ++ Ls) (0 + 1) (0 + 6) (MQ below (zx_Qc E (some (.int 1)) (zx_th (I, L, Y))) (([Value.ref 3, .int x, .int y, .ref 159].map (zx_v E)).toArray) s 1 6 (zx_A E)) (F0 m 5 la [.int 0, .ref (zx_rho E 159)]) q := by
      refine vx_catch (own := "NamesThatShrinkLaw") (name := zx_nse) (E := zx_nse) (ce := ce) hown [] { startPc := 0, endPc := 10, handlerPc := 13, catchType := 13 } [] (by rw [htab]; rfl) (fun z hz => by cases hz) (by decide) (by decide) (hts1 _ (zl_in (by decide +kernel))) (zx_at_good hts1 hK (L := [Jvm.Cond.castable zx_nse zx_nse]) (by decide +kernel) _ (by simp)) (by rw [e1]; exact hce) hcv hcl ?_
      refine lv_astore hx hb (cc := method_3_code) (i := 4) (by decide +kernel) hl0 (by decide) rfl (fun la' hl' => ?_)
      refine lv_iconst hx hb (cc := method_3_code) (n := 1) (v := 1) (by decide +kernel) (by decide) ?_
      exact W.zret hx hb (by rw [hret]) rfl (fun t ht hW => ⟨rfl, by rw [ht]; exact hR2.moved hW.alike⟩) hB2 (by decide +kernel)
    obtain ⟨t2, a1, b1⟩ := hk T' rfl X'
    exact ⟨t2, st.trans a1, b1⟩
