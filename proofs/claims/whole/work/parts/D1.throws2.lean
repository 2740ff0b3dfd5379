/-! ===== of and row of the class: where they throw ===== -/
section ZTH
variable {p : Program} {l : Launch} {e : Env} {R : Room} {s : State} {m : MethodId} {args : Array Value} {below : List Frame} {meth : Method} {c : Code} {H : Heap} {locs : List Loc}
theorem zx_thr {E : zx_E} {d k pc : Nat} {M : zx_M} {la : Array Slot} (hl : l.stackTraces = false) (hF : zx_F E d k p R s m args meth c) (ho : zx_own k = "NamesThatShrink")
    (d0 : decode (zx_b k) pc = .ok (.new 125, 3)) (d3 : decode (zx_b k) (pc + 3) = .ok (.dup, 1)) (d4 : decode (zx_b k) (pc + 4) = .ok (.invokespecial 127, 3)) (d7 : decode (zx_b k) (pc + 7) = .ok (.athrow, 1))
    (hex : ∀ x ∈ c.exceptionTable.toList, False) (hlocks : meth.locks = false) (hR0 : zx_R E M s s.heap) (hR : zx_R E M s H) (hB : zx_B E locs) (hsz : la.size = c.maxLocals) (hd : 6 ≤ d) (hc : 1 ≤ R.cells) (hs : 6 ≤ R.slots) :
    W p l e R s m args below meth c H locs 0 0 (vx_MQ below (fun _ _ _ _ => False) (zx_XC E M) args s 1 6 (zx_A E)) (F0 m pc la []) := by
  obtain ⟨hx, hb, hml, hown, hts, hK, hfr, hlo, -⟩ := hF
  rw [ho] at hown
  have hin : ∀ w ∈ (Jvm.Cond.classLink "NamesThatShrink" 125 zx_nse :: Jvm.Cond.initialized zx_nse :: vx_at0 "NamesThatShrink" 127 zx_nse zx_up), w.before args s = true := zx_at_good hts hK zx_at_in
  intro T hT X
  have hS := zx_S_of X hB
  rw [hT] at hS
  refine zx_throw0 (A := zx_A E) hx hb hl hown (by decide +kernel) (by decide +kernel) (hin _ (by simp)) (hin _ (by simp)) (fun w hw => hin w (by simp [hw])) (fun w hw => List.all_eq_true.mp zx_at_ot w hw) hR0.2.2.1.2.2.2.1 hR0.2.2.1.2.2.2.2 hS hsz d0 d3 d4 d7 (fun x hx => (hex x hx).elim) ?_ ?_ ?_ ?_ hlocks ?_ hB ?_ ?_ T hT X
  · show 2 + 3 < R.frames; omega
  · show 0 + (13 * (2 + 1) + 42) ≤ R.locals; omega
  · omega
  · omega
  · intro t ha hz hq
    exact ⟨rfl, (zx_th_R hR hz hq).moved ha⟩
  · omega
  · omega
theorem zx_getf {E : zx_E} {d k pc idx i a b p0 : Nat} {v0 : Int32} {w0 : Int64} {v : Value} {M : zx_M} {la : Array Slot} {st : List Value} {cells slots : Nat} {Q : State → Prop} (hF : zx_F E d k p R s m args meth c) (hR : zx_R E M s H)
    (hc : zx_chk k (pc, 3, .getfield idx, v0, w0, p0, a, b) = true) (hi : zx_is M i a) (hv : zx_cv M (zx_tc (zx_ty a b)) i b = v)
    (kk : W p l e R s m args below meth c H locs cells slots Q (F0 m (pc + 3) la (zx_v E v :: st))) : W p l e R s m args below meth c H locs cells slots Q (F0 m pc la (.ref (zx_rho E i) :: st)) := by
  obtain ⟨hd, -⟩ := zx_chk_dec hc
  have ho := zx_chk_opr hc
  simp only [zx_opr, Bool.and_eq_true, decide_eq_true_eq] at ho
  obtain ⟨⟨ha, hbN⟩, hw⟩ := ho
  obtain ⟨hx, hb, -, hown, hts, hK, -⟩ := hF
  obtain ⟨cell, q1, q2, q3, q4⟩ := zx_ob hR hi ha
  obtain ⟨hS, hfc, kC, hkC, hkind⟩ := hK.1.1 a _ (zx_cl_at ha)
  obtain ⟨cf, kf, fi, f, hfi, hsl⟩ := hS b hbN
  refine W.getf hx hb hown (hts _ (zx_w_mem hw)) hfi (u_facts hfc hkC (u_lays hts (zx_lays_in ha) hbN) hfi).1 q1 (by rw [q3]; exact fun h => by cases h) (v := zx_v E v) ?_ rfl rfl hd kk
  rw [hsl, q4 b hbN]
  show some (zx_v E (zx_cv M (zx_tc (zx_ty a b)) i b)) = _
  rw [hv]
end ZTH
set_option maxRecDepth 100000 in
theorem zx_row_x {l : Launch} {E : zx_E} {d : Nat} {I : Nat → Nat → Int32} {L : Nat → Nat → Int64} {Y : zx_Y} {x : Int32} (hl : l.stackTraces = false) (hY : zx_lay Y) (hd : 6 ≤ d) (hx0 : x < 0 ∨ ¬ x < I 6 1) :
    vx_Met l (zx_y 154) (zx_ws 154) ({ frames := d, cells := 1, slots := 6, locals := 64 * d }) (zx_Pc E [.ref 3, .int x] (I, L, Y)) (fun _ _ _ _ => False) (zx_XC E (I, L, Y)) 1 6 (zx_A E) := by
  have hk : zx_mok 154 = true := by decide +kernel
  have hm := zx_mok_code hk
  refine vx_ofW (cc := zx_b 154) (maxL := zx_mL 154) (ret := zx_rt 154) hm.2.2.2.2.1 rfl ?_
  intro p e s m args below meth c s₁ B hml hex hv
  obtain ⟨rfl, hR, hK⟩ := hv
  have hx := B.exec
  have hb := B.bytes
  have hts := atoms_spec (ws := zx_ws 154) B.pre
  have hown : s.vm.findClass (zx_y 154).cls = some m.cls := findClass_of_methodNamed B.named
  have hlocks := B.notSynchronized
  have hl0 := lv_entry ([Value.ref 3, .int x].map (zx_v E)) (n := zx_mL 154) (by rw [zx_en_len]; exact (by decide : 2 ≤ zx_mL 154))
  rw [lg_entry_eq]
  generalize (lg_sl ([Value.ref 3, .int x].map (zx_v E)) ++ List.replicate (zx_mL 154 - (lg_sl ([Value.ref 3, .int x].map (zx_v E))).length) Slot.unset).toArray = la at hl0 ⊢
  have hL := zx_ent_L hl0
  have hF : zx_F E d 154 p ({ frames := d, cells := 1, slots := 6, locals := 64 * d }) s m (([Value.ref 3, .int x].map (zx_v E)).toArray) meth c := ⟨hx, hb, hml, hown, fun w hw => hts w (List.mem_cons_of_mem _ hw), hK, Nat.le_refl _, Nat.le_refl _, (name_of_methodNamed B.named B.method).1, by have := hR.1; have := hR.2.1; omega⟩
  have hthr := zx_thr (M := (I, L, Y)) (H := s.heap) (locs := []) (pc := 15) (la := la) hl hF rfl (by decide +kernel) (by decide +kernel) (by decide +kernel) (by decide +kernel) hex hlocks hR hR (fun _ h => by cases h) (by rw [hml]; exact hL.1) hd (Nat.le_refl _) (Nat.le_refl _) (below := below) (e := e)
  have g0 : la[0]? = some (.val (.ref (zx_rho E 3))) := hL.2.2 0 (.ref 3) rfl
  have g1 : la[1]? = some (.val (.int x)) := hL.2.2 1 (.int x) rfl
  refine lv_iload_n (i := 1) hx hb (cc := zx_b 154) (k := 1) (by decide +kernel) rfl g1 ?_
  refine lv_if_lt hx hb (cc := zx_b 154) (off := 14) (tgt := 15) (by decide +kernel) rfl (fun _ => hthr) (fun n => ?_)
  refine lv_iload_n (i := 1) hx hb (cc := zx_b 154) (k := 1) (by decide +kernel) rfl g1 ?_
  refine lv_aload_n (i := 0) hx hb (cc := zx_b 154) (k := 0) (by decide +kernel) rfl g0 ?_
  refine zx_getf (a := 11) (b := 1) (i := 3) (v := .ref 6) (idx := 19) (w0 := 0) (v0 := 0) (p0 := 530) hF hR (List.all_eq_true.mp zk_154 (6, 3, .getfield 19, 0, 0, 530, 11, 1) (by simp [zt_154])) (zx_lis hY 3 11 rfl rfl) (show va_rf (Y.1 3 1) = _ by rw [zx_lrf hY 1 3 1 6 rfl]; rfl) ?_
  refine zx_getf (a := 8) (b := 1) (i := 6) (v := .int (I 6 1)) (idx := 308) (w0 := 0) (v0 := 0) (p0 := 168) hF hR (List.all_eq_true.mp zk_154 (9, 3, .getfield 308, 0, 0, 168, 8, 1) (by simp [zt_154])) (zx_lis hY 6 8 rfl rfl) rfl ?_
  exact lv_icmp_lt hx hb (cc := zx_b 154) (off := 11) (tgt := 23) (by decide +kernel) rfl (fun q => (hx0.elim n (fun z => z q)).elim) (fun _ => hthr)
