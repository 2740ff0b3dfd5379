/-! ===== the law calls its own of and row ===== -/
section ZLC
variable {l : Launch} {E : zx_E} {d pc : Nat} {ls : List (Option Value)} {st as : List Value} {M M1 : zx_M} {Qo : Option Value → zx_M → Prop} {v : Int32}
/-- a static call of a method of the law with a table of its own -/
theorem zl_stat {y : MethodName} {cc : ByteArray} {nL idx n : Nat} {hh : List (Nat × Nat × Nat × Nat)} (hd : decode (zx_b 272) pc = .ok (.invokestatic idx, 3)) (hn : as.length = n) (hst : zx_sw8 st ≤ 8) (hnL : nL ≤ 45)
    (hy : y.cls = "NamesThatShrinkLaw") (hpd : (parseMethodDescriptor y.desc).map (fun d => d.parameters.length) = some n)
    (h1 : Jvm.Cond.methodLink "NamesThatShrinkLaw" idx y ∈ zx_good) (h2 : Jvm.Cond.static y ∈ zx_good) (h3 : Jvm.Cond.initialized "NamesThatShrinkLaw" ∈ zx_good) (h4 : Jvm.Cond.codeWith y cc nL (some .int) hh ∈ zx_good)
    (hM : Met l y (.codeWith y cc nL (some .int) hh :: zx_good) ({ frames := d, cells := zx_n M1 - zx_n M, slots := zx_sl M1 - zx_sl M, locals := 64 * d }) (zx_Pc E as M) (zx_Qc E (some (.int v)) M1) (zx_n M1 - zx_n M) (zx_sl M1 - zx_sl M) (zx_A E))
    (n1 : zx_n M ≤ zx_n M1) (s1 : zx_sl M ≤ zx_sl M1)
    (hz : zx_To l E (d + 1) 272 (pc + 3) ls (.int v :: st) M1 Qo) : zx_To l E (d + 1) 272 pc ls (as.reverse ++ st) M Qo := by
  obtain ⟨r, M', hQ, ho, a1, a2, a3⟩ := hz
  refine ⟨r, M', hQ, ho, by omega, by omega, fun p e R s m args below meth c hF Q CF SF hC hS hret H locs cells slots la hR hL hB e1 e2 => ?_⟩
  have hF0 := hF
  obtain ⟨hx, hb, hml, hown, hts, hK, hfr, hlo, -⟩ := hF
  rw [zx_maps]
  refine zx_run (mc := zx_n M1 - zx_n M) (ms := zx_sl M1 - zx_sl M) (r1 := some (.int v)) (M1 := M1) (vx_runSW (As := as.map (zx_v E)) (rest := st.map (zx_v E)) (n := n) (index := idx) (own := "NamesThatShrinkLaw") ⟨hx, hb, hml, hown, hts⟩ hM (vx_cwSW n hts (zx_gi (fun w h => ?_)) rfl rfl rfl ⟨by rw [hy]; decide, by rw [hy]; decide, hpd⟩ ⟨hfr, by show 8 + (nL + 11) + 64 * d ≤ R.locals; omega⟩) ⟨zx_blind, zx_pre hR hK⟩ rfl (by rw [List.length_map]; exact hn) hL.1 rfl (lv_room (by rw [zx_sw8_map]; exact hst)) hd ⟨by omega, by omega⟩) hB (fun H1 locs1 hR1 hB1 => ?_)
  · simp only [va_wsS, List.mem_append, List.mem_cons, List.not_mem_nil, or_false] at h
    rcases h with (h | h | h) | h | h
    · rw [h]; exact h1
    · rw [h]; exact h2
    · rw [h, hy]; exact h3
    · rw [h]; exact h4
    · exact h
  · exact a3 p e R s m args below meth c hF0 Q CF SF hC hS hret H1 locs1 (cells + (zx_n M1 - zx_n M)) (slots + (zx_sl M1 - zx_sl M)) la hR1 hL hB1 (by omega) (by omega)
end ZLC
section ZLD
variable {l : Launch} {E : zx_E} {d pc : Nat} {ls : List (Option Value)} {st : List Value} {I : Nat → Nat → Int32} {L : Nat → Nat → Int64} {Y : zx_Y} {Qo : Option Value → zx_M → Prop} {x y v : Int32}
theorem zl_th_n : zx_n (zx_th (I, L, Y)) - zx_n (I, L, Y) = 1 := zx_nw_n
theorem zl_th_s : zx_sl (zx_th (I, L, Y)) - zx_sl (I, L, Y) = 6 := zx_nw_s
theorem zl_of_ok (hd : decode (zx_b 272) pc = .ok (.invokestatic 42, 3)) (hst : zx_sw8 st ≤ 8) (hY : zx_lay Y) (hz : zx_Ci l E d 122 [.ref 3, .int x, .int y] (I, L, Y) (fun w M' => w = v ∧ M' = (I, L, Y)))
    (hq : zx_To l E (d + 2) 272 (pc + 3) ls (.int 0 :: st) (zx_pl (I, L, Y) 159 0 v.toInt64) Qo) : zx_To l E (d + 2) 272 pc ls ([.ref 3, .int x, .int y, .ref 159].reverse ++ st) (I, L, Y) Qo :=
  zl_stat (y := zl_ofM) (cc := method_3_code) (nL := 5) (n := 4) (hh := [(0, 10, 13, 13)]) (M1 := zx_pl (I, L, Y) 159 0 v.toInt64) hd rfl hst (by decide) rfl (by decide +kernel) (zl_in (by decide +kernel)) (zl_in (by decide +kernel)) (zl_in (by decide +kernel)) (zl_in (by decide +kernel)) (by
    have h := zl_of_n hY hz
    have e1 : zx_n (zx_pl (I, L, Y) 159 0 v.toInt64) - zx_n (I, L, Y) = 0 := Nat.sub_self _
    have e2 : zx_sl (zx_pl (I, L, Y) 159 0 v.toInt64) - zx_sl (I, L, Y) = 0 := Nat.sub_self _
    rw [e1, e2]; exact h) (Nat.le_refl _) (Nat.le_refl _) hq
theorem zl_of_thr (hl : l.stackTraces = false) (hd : decode (zx_b 272) pc = .ok (.invokestatic 42, 3)) (hst : zx_sw8 st ≤ 8) (hY : zx_lay Y) {bv : Int32} (h5 : 5 ≤ d) (hh : zx_Ci l E d 1 [.ref 8, .int x] (I, L, Y) (fun w M' => w = bv ∧ M' = (I, L, Y))) (hx0 : bv = 0 ∨ y < 0 ∨ ¬ y ≤ 3)
    (hq : zx_To l E (d + 3) 272 (pc + 3) ls (.int 1 :: st) (zx_th (I, L, Y)) Qo) : zx_To l E (d + 3) 272 pc ls ([.ref 3, .int x, .int y, .ref 159].reverse ++ st) (I, L, Y) Qo :=
  zl_stat (d := d + 2) (y := zl_ofM) (cc := method_3_code) (nL := 5) (n := 4) (hh := [(0, 10, 13, 13)]) (M1 := zx_th (I, L, Y)) hd rfl hst (by decide) rfl (by decide +kernel) (zl_in (by decide +kernel)) (zl_in (by decide +kernel)) (zl_in (by decide +kernel)) (zl_in (by decide +kernel)) (by
    have h := zl_of_x hY (zx_of_x hl hY (by omega : 6 ≤ d + 1) hh hx0)
    rw [zl_th_n, zl_th_s]; exact h) (Nat.le_succ _) (Nat.le_add_right _ _) hq
theorem zl_row_ok (hd : decode (zx_b 272) pc = .ok (.invokestatic 180, 3)) (hst : zx_sw8 st ≤ 8) (hY : zx_lay Y) (hz : zx_Ci l E d 154 [.ref 3, .int x] (I, L, Y) (fun w M' => w = v ∧ M' = (I, L, Y)))
    (hq : zx_To l E (d + 2) 272 (pc + 3) ls (.int 0 :: st) (zx_pl (I, L, Y) 159 0 v.toInt64) Qo) : zx_To l E (d + 2) 272 pc ls ([.ref 3, .int x, .ref 159].reverse ++ st) (I, L, Y) Qo :=
  zl_stat (y := zl_row) (cc := method_4_code) (nL := 4) (n := 3) (hh := [(0, 9, 12, 13)]) (M1 := zx_pl (I, L, Y) 159 0 v.toInt64) hd rfl hst (by decide) rfl (by decide +kernel) (zl_in (by decide +kernel)) (zl_in (by decide +kernel)) (zl_in (by decide +kernel)) (zl_in (by decide +kernel)) (by
    have h := zl_row_n hY hz
    have e1 : zx_n (zx_pl (I, L, Y) 159 0 v.toInt64) - zx_n (I, L, Y) = 0 := Nat.sub_self _
    have e2 : zx_sl (zx_pl (I, L, Y) 159 0 v.toInt64) - zx_sl (I, L, Y) = 0 := Nat.sub_self _
    rw [e1, e2]; exact h) (Nat.le_refl _) (Nat.le_refl _) hq
theorem zl_row_thr (hl : l.stackTraces = false) (hd : decode (zx_b 272) pc = .ok (.invokestatic 180, 3)) (hst : zx_sw8 st ≤ 8) (hY : zx_lay Y) (h6 : 6 ≤ d) (hx0 : x < 0 ∨ ¬ x < I 6 1)
    (hq : zx_To l E (d + 2) 272 (pc + 3) ls (.int 1 :: st) (zx_th (I, L, Y)) Qo) : zx_To l E (d + 2) 272 pc ls ([.ref 3, .int x, .ref 159].reverse ++ st) (I, L, Y) Qo :=
  zl_stat (d := d + 1) (y := zl_row) (cc := method_4_code) (nL := 4) (n := 3) (hh := [(0, 9, 12, 13)]) (M1 := zx_th (I, L, Y)) hd rfl hst (by decide) rfl (by decide +kernel) (zl_in (by decide +kernel)) (zl_in (by decide +kernel)) (zl_in (by decide +kernel)) (zl_in (by decide +kernel)) (by
    have h := zl_row_x (E := E) (L := L) hY (zx_row_x hl hY h6 hx0)
    rw [zl_th_n, zl_th_s]; exact h) (Nat.le_succ _) (Nat.le_add_right _ _) hq
end ZLD
