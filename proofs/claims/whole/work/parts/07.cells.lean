/-- a cell of ours, of this kind -/
def zx_is (M : zx_M) (i kd : Nat) : Prop := 3 ≤ i ∧ i < zx_n M ∧ zx_kd M i = kd
section ZC
variable {l : Launch} {E : zx_E} {d k pc len p0 a b : Nat} {v0 : Int32} {w0 : Int64} {ls : List (Option Value)} {st : List Value} {M : zx_M} {Qo : Option Value → zx_M → Prop}
theorem zx_ob {U : State} {H : Heap} {i : Nat} (hR : zx_R E M U H) (hi : zx_is M i a) (ha : a < 13) : t_OB (zx_rho E i) (E.2.1.1 a) (zx_N a) (E.2.1.2 a) H (fun k => zx_v E (zx_cv M (zx_tc (zx_ty a k)) i k)) := by
  obtain ⟨h3, hn, hk⟩ := hi
  have h := (hR.2.2.2 i h3 hn).1 (by rw [hk]; exact ha)
  rw [hk] at h
  exact h
theorem zx_ar {U : State} {H : Heap} {i : Nat} (hR : zx_R E M U H) (hi : zx_is M i a) (ha : 20 ≤ a) (ha2 : a ≤ 26) : H[zx_rho E i]? = some (arrV (E.2.2 a) (zx_ln M i) (fun j => zx_v E (zx_cv M (zx_tc (zx_at a)) i j))) := by
  obtain ⟨h3, hn, hk⟩ := hi
  have h := (hR.2.2.2 i h3 hn).2 (by rw [hk]; exact ha) (by rw [hk]; exact ha2)
  rw [hk] at h
  exact h
theorem zx_tys_at (E : zx_E) {a : Nat} (h : 20 ≤ a) (h2 : a ≤ 26) : (zx_tys E)[a - 20]? = some (E.2.2 a, zx_at a) := by
  rcases (show a = 20 ∨ a = 21 ∨ a = 22 ∨ a = 23 ∨ a = 24 ∨ a = 25 ∨ a = 26 by omega) with rfl | rfl | rfl | rfl | rfl | rfl | rfl <;> rfl
theorem zx_arr {U : State} (hK : zx_K E U) (ha : 20 ≤ a) (ha2 : a ≤ 26) : ArrOfT U (E.2.2 a) (zx_at a) ∧ va_RA U (E.2.2 a) (zx_at a) := hK.1.2 (a - 20) _ (zx_tys_at E ha ha2)
theorem zx_getfield_ok {idx i : Nat} {v : Value} (hc : zx_chk k (pc, len, .getfield idx, v0, w0, p0, a, b) = true) (hi : zx_is M i a) (hv : zx_cv M (zx_tc (zx_ty a b)) i b = v)
    (hz : zx_To l E d k (pc + len) ls (v :: st) M Qo) : zx_To l E d k pc ls (.ref i :: st) M Qo := by
  obtain ⟨hd, hl⟩ := zx_chk_dec hc
  have ho := zx_chk_opr hc
  simp only [zx_opr, Bool.and_eq_true, decide_eq_true_eq] at ho
  obtain ⟨⟨ha, hbN⟩, hw⟩ := ho
  rcases hl with hl | hl <;> first | (cases hl; done) | skip
  rw [hl] at hd hz
  refine zx_Zs rfl rfl (fun p e R s m args below meth c hF Q H locs cells slots la _ _ hR hL hB kk => ?_) hz
  obtain ⟨hx, hb, -, hown, hts, hK, -⟩ := hF
  obtain ⟨cell, q1, q2, q3, q4⟩ := zx_ob hR hi ha
  obtain ⟨hS, hfc, kC, hkC, hkind⟩ := hK.1.1 a _ (zx_cl_at ha)
  obtain ⟨cf, kf, fi, f, hfi, hsl⟩ := hS b hbN
  refine W.getf hx hb hown (hts _ (zx_w_mem hw)) hfi (u_facts hfc hkC (u_lays hts (zx_lays_in ha) hbN) hfi).1 q1 (by rw [q3]; exact fun h => by cases h) (v := zx_v E v) ?_ rfl rfl hd (kk H locs la hR hL hB)
  rw [hsl, q4 b hbN]
  show some (zx_v E (zx_cv M (zx_tc (zx_ty a b)) i b)) = _
  rw [hv]
/-- what an int may be to stand in a field -/
def zx_nf (ty : FieldType) (x : Int32) : Option Prop := match ty with
  | .int => none
  | .boolean => some (x = 0 ∨ x = 1)
  | _ => some False
theorem zx_nf_ok {ty : FieldType} {x : Int32} (h : zx_oc (zx_nf ty x)) : narrow ty (.int x) = .int x ∧ fits ty (.int x) = true := by
  cases ty <;> first | exact ⟨rfl, rfl⟩ | exact h.elim | skip
  rcases h with rfl | rfl <;> exact ⟨by decide, by decide⟩
theorem zx_ap {U : State} {args : Array Value} (hts : ∀ w ∈ zx_good, w.before args U = true) (hK : zx_K E U) (ha : a < 13) : ∀ x y, x < zx_N a → y < zx_N a → x ≠ y → E.2.1.2 a x ≠ E.2.1.2 a y := by
  intro x y hx hy hne
  obtain ⟨hS, -⟩ := hK.1.1 a _ (zx_cl_at ha)
  obtain ⟨_, _, _, fa, hia, ea⟩ := hS x hx
  obtain ⟨_, _, _, fb, hib, eb⟩ := hS y hy
  show E.2.1.2 a x ≠ E.2.1.2 a y
  rw [← ea, ← eb]
  refine u_apart (u_lays hts (zx_lays_in ha) hx) (u_lays hts (zx_lays_in ha) hy) hia hib ?_
  rw [(State.fieldFound?_type hia (zx_ty_ok ha x hx)).1, (State.fieldFound?_type hib (zx_ty_ok ha y hy)).1]
  exact zx_nm_ok ha x hx y hy hne
/-- a write to a field, of whatever type -/
theorem zx_put_gen {idx i : Nat} {v : Value} {M1 : zx_M} (hc : zx_chk k (pc, len, .putfield idx, v0, w0, p0, a, b) = true) (hi : zx_is M i a) (hnar : narrow (zx_ty a b) (zx_v E v) = zx_v E v) (hfit : fits (zx_ty a b) (zx_v E v) = true)
    (hn : zx_n M1 = zx_n M) (hs : zx_sl M1 = zx_sl M) (hk : ∀ j, zx_kd M1 j = zx_kd M j) (hl1 : ∀ j, zx_ln M1 j = zx_ln M j) (h1 : ∀ j, j ≠ i → M1.1 j = M.1 j) (h2 : ∀ j, j ≠ i → M1.2.1 j = M.2.1 j) (h3 : ∀ j, j ≠ i → M1.2.2.1 j = M.2.2.1 j)
    (hnew : zx_cv M1 (zx_tc (zx_ty a b)) i b = v) (hold : ∀ t y, y ≠ b → zx_cv M1 t i y = zx_cv M t i y)
    (hz : zx_To l E d k (pc + len) ls st M1 Qo) : zx_To l E d k pc ls (v :: .ref i :: st) M Qo := by
  obtain ⟨hd, hl⟩ := zx_chk_dec hc
  have ho := zx_chk_opr hc
  simp only [zx_opr, Bool.and_eq_true, decide_eq_true_eq, Bool.or_eq_true, Bool.not_eq_true'] at ho
  obtain ⟨⟨⟨ha, hbN⟩, hw⟩, hfin⟩ := ho
  rcases hl with hl | hl <;> first | (cases hl; done) | skip
  rw [hl] at hd hz
  refine zx_Zs hn hs (fun p e R s m args below meth c hF Q H locs cells slots la _ _ hR hL hB kk => ?_) hz
  obtain ⟨hx, hb, -, hown, hts, hK, -, -, hmn, -⟩ := hF
  obtain ⟨cell, q1, q2, q3, q4⟩ := zx_ob hR hi ha
  obtain ⟨hS, hfc, kC, hkC, hkind⟩ := hK.1.1 a _ (zx_cl_at ha)
  obtain ⟨cf, kf, fi, f, hfi, hsl⟩ := hS b hbN
  have hap := zx_ap hts hK ha
  have hlays := u_lays hts (zx_lays_in ha) hbN
  have hst := (u_facts hfc hkC hlays hfi).1
  have hlay := hts _ (zx_lays_in ha _ (u_in_lay hbN))
  have fin : ∀ (H' : Heap) (e1 : H'[zx_rho E i]? = some (cell.setSlot (E.2.1.2 a b) (zx_v E v))) (e2 : H'.size = H.size) (e3 : ∀ q, q ≠ zx_rho E i → H'[q]? = H[q]?), zx_R E M1 s H' := by
    intro H' e1 e2 e3
    refine hR.put hi.1 hn hk hl1 h1 h2 h3 e2 e3 ⟨fun hlt => ?_, fun g1 g2 => ?_⟩
    · rw [hk, hi.2.2]
      refine t_OB.to (V := updV (fun k => zx_v E (zx_cv M (zx_tc (zx_ty a k)) i k)) b (zx_v E v)) ⟨_, e1, q2, q3, t_set q4 hap hbN _⟩ (fun j hj => ?_)
      by_cases e : j = b
      · subst e
        simp only [updV, if_pos]
        rw [hnew]
      · simp only [updV, if_neg e]
        rw [hold _ _ e]
    · rw [hk, hi.2.2] at g1
      omega
  have hlt : f.slot < cell.slots.size := by rw [hsl]; exact k2_hasslot (q4 b hbN)
  have hBs : zx_B E (locs ++ [⟨zx_rho E i, f.slot⟩]) := fun q hq => by
    rcases List.mem_append.mp hq with h | h
    · exact hB q h
    · rw [List.mem_singleton.mp h]; exact zx_rho_in hi.1
  unfold u_lay at hlay
  split at hlay
  · rename_i hf
    rcases hfin with hfin | ⟨hin2, hdecl⟩
    · rw [hf] at hfin; cases hfin
    · have hcf : m.cls = cf := by
        obtain ⟨_, _, c', _, _, _, -, -, hf', -, -, -, hown2, -⟩ := Cond.laysFinal_spec hlay
        have e1 : c' = cf := by have := hfi.symm.trans hf'; simp at this; exact this.1.symm
        rw [hdecl] at hown2
        rw [← e1]; exact Option.some.inj (hown.symm.trans hown2)
      have h6 := u_fits hfc hkC hkind (Or.inr hlay) hfi (zx_ty_ok ha b hbN) hnar hfit
      refine W.putFinK hx hb hown (hts _ (zx_w_mem hw)) hfi hst hcf (by rw [hmn]; exact hin2) (by rw [q2]; exact h6) q1 q3 hlt rfl rfl hd fun H' e1 e2 e3 => ?_
      rw [hsl] at e1
      exact kk H' _ la (fin H' e1 e2 e3) hL hBs
  · have h6 := u_store hfc hkC hkind hlay hfi (zx_ty_ok ha b hbN) hnar hfit
    refine W.putK hx hb (f := f) ⟨hown, hts _ (zx_w_mem hw), ⟨_, _, _, hfi⟩, hst⟩ (by rw [q2]; exact h6) q1 q3 hlt rfl rfl hd fun H' e1 e2 e3 => ?_
    rw [hsl] at e1
    exact kk H' _ la (fin H' e1 e2 e3) hL hBs
theorem zx_puti_ok {idx i : Nat} {x : Int32} (hc : zx_chk k (pc, len, .putfield idx, v0, w0, p0, a, b) = true) (hi : zx_is M i a) (ht : zx_tc (zx_ty a b) = 0) (hx : zx_oc (zx_nf (zx_ty a b) x))
    (hz : zx_To l E d k (pc + len) ls st (zx_pi M i b x) Qo) : zx_To l E d k pc ls (.int x :: .ref i :: st) M Qo := by
  have hf := zx_nf_ok hx
  refine zx_put_gen (M1 := zx_pi M i b x) hc hi hf.1 hf.2 rfl rfl (fun _ => rfl) (fun _ => rfl) (fun j hj => ?_) (fun _ _ => rfl) (fun _ _ => rfl) ?_ (fun t y hy => ?_) hz
  · funext y; simp [zx_pi, zx_u2, hj]
  · rw [ht]; simp [zx_cv, zx_pi, zx_u2]
  · unfold zx_cv; split <;> simp [zx_pi, zx_u2, hy]
theorem zx_putl_ok {idx i : Nat} {x : Int64} (hc : zx_chk k (pc, len, .putfield idx, v0, w0, p0, a, b) = true) (hi : zx_is M i a) (ht : zx_ty a b = .long)
    (hz : zx_To l E d k (pc + len) ls st (zx_pl M i b x) Qo) : zx_To l E d k pc ls (.long x :: .ref i :: st) M Qo := by
  refine zx_put_gen (M1 := zx_pl M i b x) hc hi (by rw [ht]; rfl) (by rw [ht]; rfl) rfl rfl (fun _ => rfl) (fun _ => rfl) (fun _ _ => rfl) (fun j hj => ?_) (fun _ _ => rfl) ?_ (fun t y hy => ?_) hz
  · funext y; simp [zx_pl, zx_u2, hj]
  · rw [ht]; simp [zx_cv, zx_pl, zx_u2, zx_tc]
  · unfold zx_cv; split <;> simp [zx_pl, zx_u2, hy]
theorem zx_putr_ok {idx i j : Nat} (hc : zx_chk k (pc, len, .putfield idx, v0, w0, p0, a, b) = true) (hi : zx_is M i a) (ht : zx_tc (zx_ty a b) = 2)
    (hz : zx_To l E d k (pc + len) ls st (zx_pr M i b (some j)) Qo) : zx_To l E d k pc ls (.ref j :: .ref i :: st) M Qo := by
  refine zx_put_gen (M1 := zx_pr M i b (some j)) hc hi ?_ ?_ rfl rfl (fun _ => rfl) (fun _ => rfl) (fun _ _ => rfl) (fun _ _ => rfl) (fun j hj => ?_) ?_ (fun t y hy => ?_) hz
  · show narrow (zx_ty a b) (.ref _) = .ref _
    cases h : zx_ty a b <;> rfl
  · show fits (zx_ty a b) (.ref _) = true
    cases h : zx_ty a b <;> first | rfl | (rw [h] at ht; cases ht)
  · funext y; simp [zx_pr, zx_u2, hj]
  · rw [ht]; simp [zx_cv, zx_pr, zx_u2, va_rf]
  · unfold zx_cv; split <;> simp [zx_pr, zx_u2, hy]
theorem zx_getstatic_ok {idx : Nat} (hc : zx_chk k (pc, len, .getstatic idx, v0, w0, p0, a, b) = true)
    (hz : zx_To l E d k (pc + len) ls (.ref a :: st) M Qo) : zx_To l E d k pc ls st M Qo := by
  obtain ⟨hd, hl⟩ := zx_chk_dec hc
  have ho := zx_chk_opr hc
  simp only [zx_opr, Bool.and_eq_true, decide_eq_true_eq] at ho
  obtain ⟨hw, ha⟩ := ho
  rcases hl with hl | hl <;> first | (cases hl; done) | skip
  rw [hl] at hd hz
  refine zx_Zs rfl rfl (fun p e R s m args below meth c hF Q H locs cells slots la _ _ hR hL hB kk => ?_) hz
  obtain ⟨hx, hb, -, hown, hts, hK, -⟩ := hF
  have hlink := hts _ (zx_w_mem hw)
  have hZ : va_Z "NamesThatShrink$NewNames" (if a = 1 then "SEVENS" else "SIXES") "[I" (.ref (zx_rho E a)) (zx_A E) s H := by
    rcases ha with rfl | rfl
    · exact hR.2.2.1.2.1
    · exact hR.2.2.1.2.2.1
  obtain ⟨cf, kf, fi, f, q, cell, h1, h2, h3, h4, h5, h6, h7, h8⟩ := hZ
  exact W.gets hx hb hown hlink h1 h2 h3 h4 h5 (fun e => by rw [e] at h6; cases h6) h7 rfl hd (kk H locs la hR hL hB)
/-- an int row: one of ours, or the script, or a static one -/
def zx_ia (M : zx_M) (i : Nat) : Prop := zx_is M i 20 ∨ i < 3
theorem zx_iaload_ok {i : Nat} {j : Int32} (hc : zx_chk k (pc, len, .iaload, v0, w0, p0, a, b) = true) (hi : zx_ia M i) (hj : vp_in j (zx_ln M i))
    (hz : zx_To l E d k (pc + len) ls (.int (M.1 i j.toNatClampNeg) :: st) M Qo) : zx_To l E d k pc ls (.int j :: .ref i :: st) M Qo := by
  obtain ⟨hd, hl⟩ := zx_chk_dec hc
  rcases hl with hl | hl <;> first | (cases hl; done) | skip
  rw [hl] at hd hz
  refine zx_Zs rfl rfl (fun p e R s m args below meth c hF Q H locs cells slots la _ _ hR hL hB kk => ?_) hz
  obtain ⟨hx, hb, -, hown, hts, hK, -⟩ := hF
  have hlt : j.toNatClampNeg < zx_ln M i := Nat.not_le.mp fun q => hj (Or.inr q)
  rcases hi with hi | hi
  · exact W.iald hx hb (zx_ar hR hi (by omega) (by omega)) ((zx_arr hK (a := 20) (by omega) (by omega)).1 _ _) (fun q => by cases q) (by rw [arrV_size]; exact hj) (by rw [arrV_read _ _ hlt]; rfl) rfl rfl hd (kk H locs la hR hL hB)
  · obtain ⟨cell, h1, h2, h3, h4, h5, h6, h7⟩ := (hR.2.2.1.1 i hi).2
    exact W.iald hx hb h1 h2 h3 (fun q => hj (q.elim Or.inl (fun q => Or.inr (by omega)))) (h6 _ hlt) rfl rfl hd (kk H locs la hR hL hB)
theorem zx_laload_ok {i : Nat} {j : Int32} (hc : zx_chk k (pc, len, .laload, v0, w0, p0, a, b) = true) (hi : zx_is M i 21) (hj : vp_in j (zx_ln M i))
    (hz : zx_To l E d k (pc + len) ls (.long (M.2.1 i j.toNatClampNeg) :: st) M Qo) : zx_To l E d k pc ls (.int j :: .ref i :: st) M Qo := by
  obtain ⟨hd, hl⟩ := zx_chk_dec hc
  rcases hl with hl | hl <;> first | (cases hl; done) | skip
  rw [hl] at hd hz
  refine zx_Zs rfl rfl (fun p e R s m args below meth c hF Q H locs cells slots la _ _ hR hL hB kk => ?_) hz
  obtain ⟨hx, hb, -, hown, hts, hK, -⟩ := hF
  have hlt : j.toNatClampNeg < zx_ln M i := Nat.not_le.mp fun q => hj (Or.inr q)
  exact W.lald hx hb (zx_ar hR hi (by omega) (by omega)) ((zx_arr hK (a := 21) (by omega) (by omega)).1 _ _) (fun q => by cases q) (by rw [arrV_size]; exact hj) (by rw [arrV_read _ _ hlt]; rfl) rfl rfl hd (kk H locs la hR hL hB)
theorem zx_baload_ok {i : Nat} {j : Int32} (hc : zx_chk k (pc, len, .baload, v0, w0, p0, a, b) = true) (ha : a = 22 ∨ a = 23) (hi : zx_is M i a) (hj : vp_in j (zx_ln M i))
    (hz : zx_To l E d k (pc + len) ls (.int (M.1 i j.toNatClampNeg) :: st) M Qo) : zx_To l E d k pc ls (.int j :: .ref i :: st) M Qo := by
  obtain ⟨hd, hl⟩ := zx_chk_dec hc
  rcases hl with hl | hl <;> first | (cases hl; done) | skip
  rw [hl] at hd hz
  refine zx_Zs rfl rfl (fun p e R s m args below meth c hF Q H locs cells slots la _ _ hR hL hB kk => ?_) hz
  obtain ⟨hx, hb, -, hown, hts, hK, -⟩ := hF
  have hlt : j.toNatClampNeg < zx_ln M i := Nat.not_le.mp fun q => hj (Or.inr q)
  rcases ha with rfl | rfl
  · exact W.bald hx hb (zx_ar hR hi (by omega) (by omega)) ((zx_arr hK (a := 22) (by omega) (by omega)).1 _ _) (fun q => by cases q) (by rw [arrV_size]; exact hj) (by rw [arrV_read _ _ hlt]; rfl) rfl rfl hd (kk H locs la hR hL hB)
  · exact W.zald hx hb (zx_ar hR hi (by omega) (by omega)) ((zx_arr hK (a := 23) (by omega) (by omega)).1 _ _) (fun q => by cases q) (by rw [arrV_size]; exact hj) (by rw [arrV_read _ _ hlt]; rfl) rfl rfl hd (kk H locs la hR hL hB)
theorem zx_aaload_ok {i x : Nat} {j : Int32} (hc : zx_chk k (pc, len, .aaload, v0, w0, p0, a, b) = true) {kd : Nat} (hi : zx_is M i kd) (h24 : 24 ≤ kd) (h26 : kd ≤ 26) (hj : vp_in j (zx_ln M i)) (hx0 : M.2.2.1 i j.toNatClampNeg = some x)
    (hz : zx_To l E d k (pc + len) ls (.ref x :: st) M Qo) : zx_To l E d k pc ls (.int j :: .ref i :: st) M Qo := by
  obtain ⟨hd, hl⟩ := zx_chk_dec hc
  rcases hl with hl | hl <;> first | (cases hl; done) | skip
  rw [hl] at hd hz
  refine zx_Zs rfl rfl (fun p e R s m args below meth c hF Q H locs cells slots la _ _ hR hL hB kk => ?_) hz
  obtain ⟨hx, hb, -, hown, hts, hK, -⟩ := hF
  have hlt : j.toNatClampNeg < zx_ln M i := Nat.not_le.mp fun q => hj (Or.inr q)
  have hr : (zx_at kd).isReference = true ∧ zx_tc (zx_at kd) = 2 := by
    rcases (show kd = 24 ∨ kd = 25 ∨ kd = 26 by omega) with rfl | rfl | rfl <;> exact ⟨rfl, rfl⟩
  refine W.aald (v := zx_v E (.ref x)) hx hb (zx_ar hR hi (by omega) h26) ((zx_arr hK (a := kd) (by omega) h26).1 _ _) hr.1 (fun q => by cases q) (by rw [arrV_size]; exact hj) ?_ rfl rfl hd (kk H locs la hR hL hB)
  rw [arrV_read _ _ hlt, hr.2]
  simp only [zx_cv]
  rw [hx0]
  rfl
/-- a write to an array -/
theorem zx_ast_R {U : State} {H H' : Heap} {M1 : zx_M} {i j : Nat} {v : Value} {kd : Nat} (hR : zx_R E M U H) (hi : zx_is M i kd) (h20 : 20 ≤ kd) (h26 : kd ≤ 26)
    (hn : zx_n M1 = zx_n M) (hk : ∀ j, zx_kd M1 j = zx_kd M j) (hl1 : ∀ j, zx_ln M1 j = zx_ln M j) (h1 : ∀ j, j ≠ i → M1.1 j = M.1 j) (h2 : ∀ j, j ≠ i → M1.2.1 j = M.2.1 j) (h3 : ∀ j, j ≠ i → M1.2.2.1 j = M.2.2.1 j)
    (hnew : zx_v E (zx_cv M1 (zx_tc (zx_at kd)) i j) = v) (hold : ∀ y, y ≠ j → zx_cv M1 (zx_tc (zx_at kd)) i y = zx_cv M (zx_tc (zx_at kd)) i y)
    (e1 : H'[zx_rho E i]? = some ((arrV (E.2.2 kd) (zx_ln M i) (fun j => zx_v E (zx_cv M (zx_tc (zx_at kd)) i j))).setSlot j v)) (e2 : H'.size = H.size) (e3 : ∀ q, q ≠ zx_rho E i → H'[q]? = H[q]?) : zx_R E M1 U H' := by
  refine hR.put hi.1 hn hk hl1 h1 h2 h3 e2 e3 ⟨fun hlt => ?_, fun g1 g2 => ?_⟩
  · rw [hk, hi.2.2] at hlt; omega
  · rw [hk, hi.2.2, hl1, e1, arrV_store]
    congr 2
    funext y
    by_cases e : y = j
    · subst e
      simp only [updV, if_pos]
      rw [hnew]
    · simp only [updV, if_neg e]
      rw [hold _ e]
theorem zx_B.add {locs : List Loc} {i s0 : Nat} (hB : zx_B E locs) (hi : 3 ≤ i) : zx_B E (locs ++ [⟨zx_rho E i, s0⟩]) := fun q hq => by
  rcases List.mem_append.mp hq with h | h
  · exact hB q h
  · rw [List.mem_singleton.mp h]; exact zx_rho_in hi
theorem zx_iastore_ok {i : Nat} {j x : Int32} (hc : zx_chk k (pc, len, .iastore, v0, w0, p0, a, b) = true) (hi : zx_is M i 20) (hj : vp_in j (zx_ln M i))
    (hz : zx_To l E d k (pc + len) ls st (zx_pi M i j.toNatClampNeg x) Qo) : zx_To l E d k pc ls (.int x :: .int j :: .ref i :: st) M Qo := by
  obtain ⟨hd, hl⟩ := zx_chk_dec hc
  rcases hl with hl | hl <;> first | (cases hl; done) | skip
  rw [hl] at hd hz
  refine zx_Zs (M1 := zx_pi M i j.toNatClampNeg x) rfl rfl (fun p e R s m args below meth c hF Q H locs cells slots la _ _ hR hL hB kk => ?_) hz
  obtain ⟨hx, hb, -, hown, hts, hK, -⟩ := hF
  refine W.iast hx hb (zx_ar hR hi (by omega) (by omega)) ((zx_arr hK (a := 20) (by omega) (by omega)).1 _ _) (fun q => by cases q) (by rw [arrV_size]; exact hj) rfl rfl hd fun H' e1 e2 e3 => ?_
  refine kk H' _ la (zx_ast_R (M1 := zx_pi M i j.toNatClampNeg x) hR hi (by omega) (by omega) rfl (fun _ => rfl) (fun _ => rfl) (fun q hq => ?_) (fun _ _ => rfl) (fun _ _ => rfl) ?_ (fun y hy => ?_) e1 e2 e3) hL (hB.add hi.1)
  · funext y; simp [zx_pi, zx_u2, hq]
  · simp [zx_cv, zx_pi, zx_u2, zx_tc, zx_at, zx_v]
  · simp [zx_cv, zx_pi, zx_u2, zx_tc, zx_at, hy]
theorem zx_bastore_ok {i : Nat} {j x : Int32} (hc : zx_chk k (pc, len, .bastore, v0, w0, p0, a, b) = true) (ha : a = 22 ∨ a = 23) (hi : zx_is M i a) (hj : vp_in j (zx_ln M i))
    (hz : zx_To l E d k (pc + len) ls st (zx_pi M i j.toNatClampNeg (vp_nar (zx_at a) x)) Qo) : zx_To l E d k pc ls (.int x :: .int j :: .ref i :: st) M Qo := by
  obtain ⟨hd, hl⟩ := zx_chk_dec hc
  rcases hl with hl | hl <;> first | (cases hl; done) | skip
  rw [hl] at hd hz
  refine zx_Zs (M1 := zx_pi M i j.toNatClampNeg (vp_nar (zx_at a) x)) rfl rfl (fun p e R s m args below meth c hF Q H locs cells slots la _ _ hR hL hB kk => ?_) hz
  obtain ⟨hx, hb, -, hown, hts, hK, -⟩ := hF
  rcases ha with rfl | rfl
  · refine W.bast hx hb (zx_ar hR hi (by omega) (by omega)) ((zx_arr hK (a := 22) (by omega) (by omega)).1 _ _) (fun q => by cases q) (by rw [arrV_size]; exact hj) rfl rfl hd fun H' e1 e2 e3 => ?_
    refine kk H' _ la (zx_ast_R (M1 := zx_pi M i j.toNatClampNeg (vp_nar (zx_at 22) x)) hR hi (by omega) (by omega) rfl (fun _ => rfl) (fun _ => rfl) (fun q hq => ?_) (fun _ _ => rfl) (fun _ _ => rfl) ?_ (fun y hy => ?_) e1 e2 e3) hL (hB.add hi.1)
    · funext y; simp [zx_pi, zx_u2, hq]
    · simp [zx_cv, zx_pi, zx_u2, zx_tc, zx_at, zx_v, vp_nar, narrow]
    · simp [zx_cv, zx_pi, zx_u2, zx_tc, zx_at, hy]
  · refine W.zast hx hb (zx_ar hR hi (by omega) (by omega)) ((zx_arr hK (a := 23) (by omega) (by omega)).1 _ _) (fun q => by cases q) (by rw [arrV_size]; exact hj) rfl rfl hd fun H' e1 e2 e3 => ?_
    refine kk H' _ la (zx_ast_R (M1 := zx_pi M i j.toNatClampNeg (vp_nar (zx_at 23) x)) hR hi (by omega) (by omega) rfl (fun _ => rfl) (fun _ => rfl) (fun q hq => ?_) (fun _ _ => rfl) (fun _ _ => rfl) ?_ (fun y hy => ?_) e1 e2 e3) hL (hB.add hi.1)
    · funext y; simp [zx_pi, zx_u2, hq]
    · simp [zx_cv, zx_pi, zx_u2, zx_tc, zx_at, zx_v, vp_nar, narrow]
    · simp [zx_cv, zx_pi, zx_u2, zx_tc, zx_at, hy]
theorem zx_lastore_ok {i : Nat} {j : Int32} {x : Int64} (hc : zx_chk k (pc, len, .lastore, v0, w0, p0, a, b) = true) (hi : zx_is M i 21) (hj : vp_in j (zx_ln M i))
    (hz : zx_To l E d k (pc + len) ls st (zx_pl M i j.toNatClampNeg x) Qo) : zx_To l E d k pc ls (.long x :: .int j :: .ref i :: st) M Qo := by
  obtain ⟨hd, hl⟩ := zx_chk_dec hc
  rcases hl with hl | hl <;> first | (cases hl; done) | skip
  rw [hl] at hd hz
  refine zx_Zs (M1 := zx_pl M i j.toNatClampNeg x) rfl rfl (fun p e R s m args below meth c hF Q H locs cells slots la _ _ hR hL hB kk => ?_) hz
  obtain ⟨hx, hb, -, hown, hts, hK, -⟩ := hF
  refine W.last hx hb (zx_ar hR hi (by omega) (by omega)) ((zx_arr hK (a := 21) (by omega) (by omega)).1 _ _) (fun q => by cases q) (by rw [arrV_size]; exact hj) rfl rfl hd fun H' e1 e2 e3 => ?_
  refine kk H' _ la (zx_ast_R (M1 := zx_pl M i j.toNatClampNeg x) hR hi (by omega) (by omega) rfl (fun _ => rfl) (fun _ => rfl) (fun _ _ => rfl) (fun q hq => ?_) (fun _ _ => rfl) ?_ (fun y hy => ?_) e1 e2 e3) hL (hB.add hi.1)
  · funext y; simp [zx_pl, zx_u2, hq]
  · simp [zx_cv, zx_pl, zx_u2, zx_tc, zx_at, zx_v]
  · simp [zx_cv, zx_pl, zx_u2, zx_tc, zx_at, hy]
theorem zx_alen_ok {i : Nat} (hc : zx_chk k (pc, len, .arraylength, v0, w0, p0, a, b) = true) {kd : Nat} (hi : (zx_is M i kd ∧ 20 ≤ kd ∧ kd ≤ 26) ∨ i < 3)
    (hz : zx_To l E d k (pc + len) ls (.int (Int32.ofNat (zx_ln M i)) :: st) M Qo) : zx_To l E d k pc ls (.ref i :: st) M Qo := by
  obtain ⟨hd, hl⟩ := zx_chk_dec hc
  rcases hl with hl | hl <;> first | (cases hl; done) | skip
  rw [hl] at hd hz
  refine zx_Zs rfl rfl (fun p e R s m args below meth c hF Q H locs cells slots la _ _ hR hL hB kk => ?_) hz
  obtain ⟨hx, hb, -, hown, hts, hK, -⟩ := hF
  rcases hi with ⟨hi, h1, h2⟩ | hi
  · exact W.alen hx hb (zx_ar hR hi h1 h2) ((zx_arr hK (a := kd) h1 h2).1 _ _) (by rw [arrV_size] <;> rfl) rfl rfl hd (kk H locs la hR hL hB)
  · obtain ⟨cell, h1, h2, h3, h4, h5, h6, h7⟩ := (hR.2.2.1.1 i hi).2
    exact W.alen hx hb h1 h2 h5 rfl rfl hd (kk H locs la hR hL hB)
end ZC
