/-! ===== the crowd's text: told by the class, read and told by the reference ===== -/
def zw_tl : List (Nat × Nat × Nat) := [(8, 7, 8), (9, 0, 10), (11, 0, 6)]
def zt_td (I0 J : Nat → Nat → Int32) (P : Nat) (done : List (Nat × Nat)) : Prop := zy_fr zw_tl I0 J ∧ J 8 7 = nI (P + (zt_nms done).length) ∧ (∀ p, p < 10 → J 9 p = if p < P then I0 9 p else nI ((zt_nms done).getD (p - P) 0)) ∧ ∀ j, j < 6 → J 11 j = zt_prc (I0 11) done j
theorem zt_getD_app {ns : List Nat} {x k : Nat} : (ns ++ [x]).getD k 0 = if k = ns.length then x else ns.getD k 0 := by
  rw [List.getD_eq_getElem?_getD, List.getD_eq_getElem?_getD, List.getElem?_append]
  split
  · rw [if_neg (by omega)]
  · by_cases e : k = ns.length
    · subst e; simp
    · rw [if_neg e, List.getElem?_eq_none (l := ns) (by omega), List.getElem?_eq_none (by simp; omega)]
theorem zt_prc_cong {g h : Nat → Int32} : ∀ (acc : List (Nat × Nat)) (g h : Nat → Int32), (∀ j, j < 6 → g j = h j) → ∀ j, j < 6 → zt_prc g acc j = zt_prc h acc j
  | [], _, _, e, j, hj => e j hj
  | q :: acc, g, h, e, j, hj => by
    show zt_prc (zt_p1 g q) acc j = zt_prc (zt_p1 h q) acc j
    refine zt_prc_cong (g := g) (h := h) acc _ _ (fun k hk => ?_) j hj
    unfold zt_p1
    split
    · exact e k hk
    · show (if k = q.1 - 1 then nI q.2 else g k) = (if k = q.1 - 1 then nI q.2 else h k)
      rw [e k hk]
theorem zt_prc_ok : ∀ (acc : List (Nat × Nat)) (g : Nat → Int32), (∀ q ∈ acc, zt_fine q) → (∀ j, j < 6 → ∃ v : Nat, 1 ≤ v ∧ v ≤ 9 ∧ g j = nI v) → ∀ j, j < 6 → ∃ v : Nat, 1 ≤ v ∧ v ≤ 9 ∧ zt_prc g acc j = nI v
  | [], _, _, h, j, hj => h j hj
  | q :: acc, g, hf, h, j, hj => by
    show ∃ v : Nat, 1 ≤ v ∧ v ≤ 9 ∧ zt_prc (zt_p1 g q) acc j = nI v
    refine zt_prc_ok acc _ (fun z hz => hf z (List.mem_cons_of_mem _ hz)) (fun k hk => ?_) j hj
    unfold zt_p1
    split
    · exact h k hk
    · rename_i h0
      show ∃ v : Nat, 1 ≤ v ∧ v ≤ 9 ∧ (if k = q.1 - 1 then nI q.2 else g k) = nI v
      split
      · exact ⟨q.2, by omega, (hf q List.mem_cons_self).2.2.2.1, rfl⟩
      · exact h k hk
section YCt
variable {l : Launch} {E : zx_E} {d : Nat} {I : Nat → Nat → Int32} {L : Nat → Nat → Int64} {Y : zx_Y} {Qo : Option Value → zx_M → Prop} {Q : Int32 → zx_M → Prop} {Qv : zx_M → Prop} {T : Nat → Nat} {n i to : Nat}
theorem zy_c18_2 (hY : zx_lay Y) {P : Nat} {I0 : Nat → Nat → Int32} {acc : List (Nat × Nat)} (hla : acc.length ≤ 76) (hfine : ∀ q ∈ acc, zt_fine q) (hP : P + (zt_nms acc).length ≤ 10) (h3 : I0 14 3 = nI acc.length) (hrow : zt_rows I0 acc)
    (hq : ∀ J, zt_td I0 J P acc → Qv (zx_u2 J 8 5 0, L, Y)) : ∀ (rest done : List (Nat × Nat)) (J : Nat → Nat → Int32), acc = done ++ rest → zt_td I0 J P done → zx_To l E (d + 1) 18 2 [some (.ref 14), some (.ref 8), some (.int (nI done.length))] [] (J, L, Y) (fun r M' => r = none ∧ Qv M') := by
  intro rest
  induction rest with
  | nil =>
    intro done J e hJ
    rw [List.append_nil] at e
    subst e
    refine sg_18_2 hY _ ⟨fun _ => zy_c11 hY ⟨hY, rfl, hq J hJ⟩, fun h => absurd ?_ h⟩
    rw [zy_fr_at hJ.1 14 3 (by decide), h3]; exact (nI_leI (by omega) (by omega)).mpr (Nat.le_refl _)
  | cons q rest ih =>
    intro done J e hJ
    obtain ⟨j1, j2, j3, j4⟩ := hJ
    have hq' : acc[done.length]? = some q := by rw [e]; simp
    have hlt : done.length < acc.length := (List.getElem?_eq_some_iff.mp hq').1
    have hf := hfine q (List.mem_of_getElem? hq')
    obtain ⟨r15, r16⟩ := hrow _ q hq'
    have hnl : (zt_nms done).length + (zt_nms [q]).length ≤ (zt_nms acc).length := by
      rw [e, show done ++ q :: rest = done ++ [q] ++ rest by simp, zt_nms_app, zt_nms_app, List.length_append, List.length_append]; omega
    have e15 : J 15 done.length = nI q.1 := by rw [zy_fr_row j1 15 76 (by decide) (by omega)]; exact r15
    have e16 : J 16 done.length = nI q.2 := by rw [zy_fr_row j1 16 76 (by decide) (by omega)]; exact r16
    have e143 : J 14 3 = nI acc.length := by rw [zy_fr_at j1 14 3 (by decide)]; exact h3
    have hv := vp_in_nI (n := done.length) (N := 76) (by omega) (by omega)
    obtain ⟨f1, f2, f3, f4, f5⟩ := hf
    have e' : acc = (done ++ [q]) ++ rest := by rw [e]; simp
    have eln : (done ++ [q]).length = done.length + 1 := by simp
    refine sg_18_2 hY _ ⟨fun h => ?_, fun _ => ⟨fun h => ?_, fun _ => ⟨hv, ?_⟩⟩⟩
    · rw [e143, nI_leI (by omega) (by omega)] at h; omega
    · have := (nI_leI (a := 76) (by omega) (by omega)).mp h; omega
    rw [nI_clamp (by omega), e16, e15, zy_eq0 (by omega)]
    refine ⟨fun h => ⟨hv, fun h2 => ?_, fun _ => ⟨hv, fun h2 => ?_, fun _ => ⟨hv, hv, ?_⟩⟩⟩, fun h => ⟨hv, ?_⟩⟩
    · rw [show (1 : Int32) = nI 1 by decide, nI_ltI (by omega) (by omega)] at h2; omega
    · have h6 := f5 h
      rw [show (6 : Int32) = nI 6 by decide, nI_ltI (by omega) (by omega)] at h2; omega
    · have h6 := f5 h
      have ei : nI q.1 - 1 = nI (q.1 - 1) := pk_sub (b := 1) (by omega)
      rw [ei, nI_clamp (by omega)]
      refine ⟨vp_in_nI (by omega) (by omega), ?_⟩
      have nx := ih (done ++ [q]) (zx_u2 J 11 (q.1 - 1) (nI q.2)) e' ⟨zy_fr_u2 j1 (zy_in_at 2 11 0 6 _ rfl (by omega) (by omega)), ?_, fun p hp => ?_, fun j hj => ?_⟩
      · rw [eln, ← nI_1] at nx; exact nx
      · rw [zy_u2_na (by omega), zt_nms_app, zt_nms_1, if_neg h, List.append_nil]; exact j2
      · rw [zy_u2_na (by omega), zt_nms_app, zt_nms_1, if_neg h, List.append_nil]; exact j3 p hp
      · rw [zt_prc_app]
        show _ = zt_p1 (zt_prc (I0 11) done) q j
        unfold zt_p1
        rw [if_neg h]
        show _ = if j = q.1 - 1 then nI q.2 else zt_prc (I0 11) done j
        by_cases z : j = q.1 - 1
        · subst z; rw [zy_u2_self, if_pos rfl]
        · rw [zy_u2_nk z, if_neg z]; exact j4 j hj
    · rw [zt_nms_1, if_pos h] at hnl
      have hlen1 : ([q.1] : List Nat).length = 1 := rfl
      have hk10 : P + (zt_nms done).length < 10 := by omega
      refine sg_2_0 hY _ ⟨fun h2 => ?_, fun _ => ⟨?_, rfl, hY, ?_⟩⟩
      · rw [j2] at h2
        have := (zy_10 (by omega)).mp h2; omega
      · rw [j2]; exact vp_in_nI hk10 (by omega)
      · have e87 : nI (P + (zt_nms done).length) + 1 = nI (P + (zt_nms done).length + 1) := nI_add _ 1
        rw [j2, nI_clamp (by omega), e87]
        have nx := ih (done ++ [q]) (zx_u2 (zx_u2 J 9 (P + (zt_nms done).length) (nI q.1)) 8 7 (nI (P + (zt_nms done).length + 1))) e' ⟨zy_fr_u2 (zy_fr_u2 j1 (zy_in_at 1 9 0 10 _ rfl (by omega) (by omega))) (zy_in_at 0 8 7 8 7 rfl (by omega) (by omega)), ?_, fun p hp => ?_, fun j hj => ?_⟩
        · rw [eln, ← nI_1] at nx; exact nx
        · rw [zy_u2_self, zt_nms_app, zt_nms_1, if_pos h, List.length_append, hlen1, Nat.add_assoc]
        · rw [zy_u2_na (by omega), zt_nms_app, zt_nms_1, if_pos h, zt_getD_app]
          by_cases z : p = P + (zt_nms done).length
          · subst z; rw [zy_u2_self, if_neg (by omega), if_pos (by omega)]
          · rw [zy_u2_nk z, j3 p hp]
            by_cases z2 : p < P
            · rw [if_pos z2, if_pos z2]
            · rw [if_neg z2, if_neg z2, if_neg (by omega)]
        · rw [zy_u2_na (by omega), zy_u2_na (by omega), j4 j hj, zt_prc_app]
          show _ = zt_p1 (zt_prc (I0 11) done) q j
          unfold zt_p1
          rw [if_pos h]
/-- the reference's state after lines -/
def zw_cm : List (Nat × Nat × Nat) := [(132, 15, 16), (132, 20, 21), (141, 0, 10), (142, 0, 6)]
def zt_ms (I0 J : Nat → Nat → Int32) (g : Nat → Int32) (acc : List (Nat × Nat)) : Prop := zy_fr zw_cm I0 J ∧ J 132 20 = nI (zt_nms acc).length ∧ (∀ j, j < (zt_nms acc).length → J 141 j = nI ((zt_nms acc).getD j 0)) ∧ ∀ j, j < 6 → J 142 j = zt_prc g acc j
theorem zt_ms_at {I0 J : Nat → Nat → Int32} {g : Nat → Int32} {acc : List (Nat × Nat)} {x : Int32} (h : zt_ms I0 J g acc) : zt_ms I0 (zx_u2 J 132 15 x) g acc := by
  obtain ⟨h1, h2, h3, h4⟩ := h
  exact ⟨zy_fr_u2 h1 (zy_in_at 0 132 15 16 15 rfl (by omega) (by omega)), by rw [zy_u2_nk (by omega)]; exact h2, fun j hj => by rw [zy_u2_na (by omega)]; exact h3 j hj, fun j hj => by rw [zy_u2_na (by omega)]; exact h4 j hj⟩
theorem zy_184 (hY : zx_lay Y) (hT : ∀ j, j < to → T j < 256) (ht : to ≤ 80) (hi : i ≤ to) {I0 : Nat → Nat → Int32} {g : Nat → Int32} {acc : List (Nat × Nat)} {P : Nat} (hM : zt_M I T to i) (hs : zt_ms I0 I g acc) (hp : I 132 3 = nI P) (hP : P + (zt_nms acc).length ≤ 10)
    (hq0 : ((zt_ln T to i (10 - P - (zt_nms acc).length)).1 = false ∨ ((zt_ln T to i (10 - P - (zt_nms acc).length)).2.2.1 = 0 ∧ zt_let (zt_s T to (zt_ln T to i (10 - P - (zt_nms acc).length)).2.2.2) = true)) → ∀ J, zy_fr zw_cm I0 J → zt_M J T to (zt_ln T to i (10 - P - (zt_nms acc).length)).2.2.2 → Q 0 (J, L, Y))
    (hq1 : (zt_ln T to i (10 - P - (zt_nms acc).length)).1 = true → ∀ J, zt_M J T to (zt_ln T to i (10 - P - (zt_nms acc).length)).2.2.2 → zt_ms I0 J g (acc ++ [((zt_ln T to i (10 - P - (zt_nms acc).length)).2.1, (zt_ln T to i (10 - P - (zt_nms acc).length)).2.2.1)]) → Q 1 (J, L, Y)) : zx_Ci l E (d + 3) 184 [.ref 132] (I, L, Y) Q := by
  obtain ⟨r1, r2, r3, r4, r5, r6, r7⟩ := zt_run_ok (T := T) (to := to) 8 i 0 hi zy_dig_0 (by decide) (Nat.le_refl _)
  rw [zy_len_0, Nat.zero_add] at r6
  unfold zt_ln at hq0 hq1
  refine sg_184_0 hY (zy_181 hY hT ht hi hM ⟨hY, ?_⟩)
  generalize zt_run T to 8 i 0 = r at *
  have hM2 := zt_M_at (j := r.2) hM
  have hs2 := zt_ms_at (x := nI r.2) hs
  have hp2 : zx_u2 I 132 15 (nI r.2) 132 3 = nI P := by rw [zy_u2_nk (by omega)]; exact hp
  generalize zx_u2 I 132 15 (nI r.2) = J at *
  -- a name or nothing
  have name : ¬ r.1 = 0 → ¬ (r.2 = i + 1 ∧ zt_s T to r.2 = 61) → zx_Ci l E (d + 2) 180 [.ref 132] (J, L, Y) (fun v4 M3 => zx_lay M3.2.2 ∧ (¬ v4 = 0 → ∃ v, some (Value.int 0) = some (.int v) ∧ Q v (M3.1, M3.2.1, M3.2.2)) ∧ (v4 = 0 → (¬ M3.1 132 3 + M3.1 132 20 = 10 → vp_in (M3.1 132 20) 10 ∧ ∃ v, some (Value.int 1) = some (.int v) ∧ Q v (zx_u2 (zx_u2 M3.1 141 (M3.1 132 20).toNatClampNeg (nI r.1)) 132 20 (M3.1 132 20 + 1), M3.2.1, M3.2.2)) ∧ (M3.1 132 3 + M3.1 132 20 = 10 → ∃ v, some (Value.int 0) = some (.int v) ∧ Q v (M3.1, M3.2.1, M3.2.2)))) := fun a1 a2 => by
    rw [if_neg a1, if_neg a2] at hq0 hq1
    refine zy_180 hY hT ht r3 hM2 ⟨hY, fun h => ⟨_, rfl, ?_⟩, fun h => ?_⟩
    · rw [zy_b1] at h
      by_cases hr : 10 - P - (zt_nms acc).length = 0
      · rw [if_pos hr] at hq0; exact hq0 (Or.inl rfl) J hs2.1 hM2
      · rw [if_neg hr] at hq0; exact hq0 (Or.inr ⟨rfl, h⟩) J hs2.1 hM2
    · show (¬ J 132 3 + J 132 20 = 10 → vp_in (J 132 20) 10 ∧ ∃ v, some (Value.int 1) = some (.int v) ∧ Q v (zx_u2 (zx_u2 J 141 (J 132 20).toNatClampNeg (nI r.1)) 132 20 (J 132 20 + 1), L, Y)) ∧ (J 132 3 + J 132 20 = 10 → ∃ v, some (Value.int 0) = some (.int v) ∧ Q v (J, L, Y))
      have e10 : nI (P + (zt_nms acc).length) = 10 ↔ P + (zt_nms acc).length = 10 := nI_eq (b := 10) (by omega) (by omega)
      rw [hp2, hs2.2.1, nI_add, e10, nI_clamp (by omega), nI_1]
      refine ⟨fun h2 => ⟨vp_in_nI (by omega) (by omega), _, rfl, ?_⟩, fun h2 => ⟨_, rfl, ?_⟩⟩
      · have hr : ¬ 10 - P - (zt_nms acc).length = 0 := by omega
        rw [if_neg hr] at hq1
        have en : zt_nms (acc ++ [(r.1, 0)]) = zt_nms acc ++ [r.1] := by rw [zt_nms_app, zt_nms_1, if_pos rfl]
        refine hq1 rfl _ (zt_M_cong ht hM2 (fun a k hk => ?_)) ⟨zy_fr_u2 (zy_fr_u2 hs2.1 (zy_in_at 2 141 0 10 _ rfl (by omega) (by omega))) (zy_in_at 1 132 20 21 20 rfl (by omega) (by omega)), ?_, fun j hj => ?_, fun j hj => ?_⟩
        · have hin : (a = 132 ∧ k < 17) ∨ a = 140 := by
            obtain ⟨w, hw, e1, e2, e3⟩ := hk
            simp only [List.mem_cons, List.not_mem_nil, or_false] at hw
            rcases hw with rfl | rfl <;> simp at e1 e2 e3 <;> omega
          rw [zy_u2_ne (by omega), zy_u2_ne (by omega)]
        · rw [zy_u2_self, en, List.length_append]; rfl
        · rw [en, List.length_append] at hj
          have hj : j < (zt_nms acc).length + 1 := hj
          rw [en, zt_getD_app, zy_u2_na (by omega)]
          by_cases z : j = (zt_nms acc).length
          · subst z; rw [zy_u2_self, if_pos rfl]
          · rw [zy_u2_nk z, if_neg z]; exact hs2.2.2.1 j (by omega)
        · rw [zy_u2_na (by omega), zy_u2_na (by omega), hs2.2.2.2 j hj, zt_prc_app]; rfl
      · have hr : 10 - P - (zt_nms acc).length = 0 := by omega
        rw [if_pos hr] at hq0
        exact hq0 (Or.inl rfl) J hs2.1 hM2
  have e7 : (7 : Int32) ≤ nI r.1 ↔ 7 ≤ r.1 := nI_leI (a := 7) (by omega) (by omega)
  have hlen : ¬ r.1 = 0 → (r.1 < 7 ↔ r.2 = i + 1) := fun h0 => by
    have a := zy_len_lt 1 r.1
    have b : zy_len r.1 ≠ 0 := fun q => h0 (zy_len_pos.mp q)
    rw [Nat.pow_one] at a
    rw [← a]; omega
  rw [zy_eq0 (by omega), e7]
  refine ⟨fun h => ⟨fun h2 => name h (fun q => ?_), fun h2 => ?_⟩, fun h => ⟨_, rfl, ?_⟩⟩
  · have := (hlen h).mpr q.1; omega
  · have hl1 := (hlen h).mp (by omega)
    refine zy_179 (I := J) hY hT ht r3 hM2 (s := 61) (by omega) ?_
    split
    · rename_i h61
      have hslt := (zt_s_lt h61 (by omega)).1
      refine ⟨hY, fun q => absurd q (by decide), fun _ => ?_⟩
      rw [if_neg h, if_pos ⟨hl1, h61⟩] at hq0 hq1
      have hM3 := zt_M_at (j := r.2 + 1) hM2
      have hs3 := zt_ms_at (x := nI (r.2 + 1)) hs2
      refine zy_182 (I := zx_u2 J 132 15 (nI (r.2 + 1))) hY hT ht (by omega) hM3 ⟨hY, ?_⟩
      rw [zy_b0]
      refine ⟨fun hd => ⟨Or.inl hd, ?_⟩, fun hd' => ?_⟩
      · rw [hd] at hq0 ⊢
        exact ⟨_, rfl, hq0 (Or.inl rfl) _ hs3.1 hM3⟩
      · have hd : zt_dig (zt_s T to (r.2 + 1)) = true := by simpa using hd'
        rw [if_pos hd] at hq1
        obtain ⟨g1, g2, g3⟩ := zt_dig_lt hd
        rw [hd]
        have ei : nI r.1 - 1 = nI (r.1 - 1) := pk_sub (b := 1) (by omega)
        have e15 : zx_u2 J 132 15 (nI (r.2 + 1)) 132 15 = nI (r.2 + 1) := zy_u2_self
        have e140 : zx_u2 J 132 15 (nI (r.2 + 1)) 140 (r.2 + 1) = nI (T (r.2 + 1)) := hM3.2 _ g1
        have e48 : nI (T (r.2 + 1)) - 48 = nI (T (r.2 + 1) - 48) := pk_sub (b := 48) (by omega)
        show vp_in (zx_u2 J 132 15 (nI (r.2 + 1)) 132 15) 80 ∧ vp_in (nI r.1 - 1) 6 ∧ _ ∧ ∃ v, _ ∧ Q v (zx_u2 (zx_u2 (zx_u2 J 132 15 (nI (r.2 + 1))) 142 (nI r.1 - 1).toNatClampNeg (zx_u2 J 132 15 (nI (r.2 + 1)) 140 (zx_u2 J 132 15 (nI (r.2 + 1)) 132 15).toNatClampNeg - 48)) 132 15 (zx_u2 J 132 15 (nI (r.2 + 1)) 132 15 + 1), L, Y)
        rw [e15, ei, nI_clamp (n := r.1 - 1) (by omega), nI_clamp (by omega), e140, e48, nI_1]
        refine ⟨vp_in_nI (by omega) (by omega), vp_in_nI (by omega) (by omega), Or.inr rfl, _, rfl, ?_⟩
        refine hq1 rfl _ ?_ ⟨zy_fr_u2 (zy_fr_u2 hs3.1 (zy_in_at 3 142 0 6 _ rfl (by omega) (by omega))) (zy_in_at 0 132 15 16 15 rfl (by omega) (by omega)), ?_, fun j hj => ?_, fun j hj => ?_⟩
        · refine ⟨⟨?_, ?_⟩, fun k hk => ?_⟩
          · rw [zy_u2_nk (by omega), zy_u2_na (by omega)]; exact hM3.1.1
          · rw [zy_u2_self]
          · rw [zy_u2_na (by omega), zy_u2_na (by omega)]; exact hM3.2 k hk
        · rw [zy_u2_nk (by omega), zy_u2_na (by omega), zt_nms_app, zt_nms_1, if_neg (show ¬ T (r.2 + 1) - 48 = 0 by omega), List.append_nil]; exact hs3.2.1
        · rw [zt_nms_app, zt_nms_1, if_neg (show ¬ T (r.2 + 1) - 48 = 0 by omega), List.append_nil] at hj ⊢
          rw [zy_u2_na (by omega), zy_u2_na (by omega)]; exact hs3.2.2.1 j hj
        · rw [zt_prc_app]
          show _ = zt_p1 (zt_prc g acc) (r.1, T (r.2 + 1) - 48) j
          unfold zt_p1
          rw [if_neg (show ¬ T (r.2 + 1) - 48 = 0 by omega), zy_u2_na (by omega)]
          show _ = if j = r.1 - 1 then nI (T (r.2 + 1) - 48) else zt_prc g acc j
          by_cases z : j = r.1 - 1
          · subst z; rw [zy_u2_self, if_pos rfl]
          · rw [zy_u2_nk z, if_neg z]; exact hs3.2.2.2 j hj
    · rename_i h61
      exact ⟨hY, fun _ => name h (fun q => h61 q.2), fun q => absurd rfl q⟩
  · rw [if_pos h] at hq0
    exact hq0 (Or.inl rfl) J hs2.1 hM2
/-- the reference's loop over lines -/
theorem zy_185_58 (hY : zx_lay Y) (hk : zt_ok T n 76) {I0 : Nat → Nat → Int32} {g : Nat → Int32} {P : Nat} (hp0 : I0 132 3 = nI P) (h16 : I0 132 16 = nI (min n 76)) :
    ∀ (f i : Nat) (acc : List (Nat × Nat)) (I : Nat → Nat → Int32), f + acc.length = 76 → 2 * acc.length ≤ i → i ≤ min n 76 → P + (zt_nms acc).length ≤ 10 → zt_M I T (min n 76) i → zt_ms I0 I g acc →
    ((zt_all T (min n 76) n f i (10 - P - (zt_nms acc).length)).1 = false → ∀ J, zy_fr zw_cm I0 J → Qo (some (.int ((-1) - nI (zt_all T (min n 76) n f i (10 - P - (zt_nms acc).length)).2.1))) (J, L, Y)) →
    ((zt_all T (min n 76) n f i (10 - P - (zt_nms acc).length)).1 = true → ∀ J, zt_ms I0 J g (acc ++ (zt_all T (min n 76) n f i (10 - P - (zt_nms acc).length)).2.2) → zx_To l E (d + 4) 185 115 [some (.ref 132), some (.int (nI n)), some (.int (nI (acc ++ (zt_all T (min n 76) n f i (10 - P - (zt_nms acc).length)).2.2).length)), none, none, none, some (.int 0)] [] (J, L, Y) Qo) →
    zx_To l E (d + 4) 185 58 [some (.ref 132), some (.int (nI n)), some (.int (nI acc.length)), some (.int 1), some (.int 1), none, none] [] (I, L, Y) Qo := by
  have hn80 := hk.1
  have hT : ∀ j, j < min n 76 → T j < 256 := fun j hj => hk.2.2 j (by omega)
  have neg : ∀ k : Nat, k ≤ 80 → ¬ (0 : Int32) ≤ (-1) - nI k := by
    have : ∀ k : Nat, k < 81 → ¬ (0 : Int32) ≤ (-1) - nI k := by decide
    exact fun k hk => this k (by omega)
  -- the end: at a fault
  have bad : ∀ (i : Nat) (x : Int32) (b : Bool) (J : Nat → Nat → Int32), i ≤ min n 76 → zt_M J T (min n 76) i → (b && decide (i = n)) = false → Qo (some (.int ((-1) - nI i))) (J, L, Y) → zx_To l E (d + 4) 185 58 [some (.ref 132), some (.int (nI n)), some (.int x), some (.int (if b then 1 else 0)), some (.int 0), none, none] [] (J, L, Y) Qo := by
    intro i x b J hi hM hb hq
    refine sg_185_58 hY _ _ _ _ ⟨fun _ => zy_183 (lim := 76) (g := b) hY hk.1 (by omega) rfl hi hM.1.1 hM.1.2 ⟨hY, fun h => ?_, fun _ => ?_⟩, fun h => absurd rfl h⟩
    · rw [hb] at h; exact absurd h (neg i (by omega))
    · rw [hb]; exact hq
  intro f
  induction f with
  | zero => intro i acc I hf h2 hi; omega
  | succ f ih =>
    intro i acc I hf h2 hi hP hM hs q0 q1
    obtain ⟨k1, k2, k3⟩ := zt_ln_ok (T := T) (room := 10 - P - (zt_nms acc).length) hi
    have hp : I 132 3 = nI P := by rw [zy_fr_at hs.1 132 3 (by decide)]; exact hp0
    rw [zt_all] at q0 q1
    refine sg_185_58 hY _ _ _ _ ⟨fun h => absurd h (by decide), fun _ => zy_184 (g := g) (acc := acc) (P := P) hY hT (by omega) hi hM hs hp hP (fun hl J hJ hMJ => ?_) (fun hl J hMJ hsJ => ?_)⟩
    · refine ⟨hY, fun _ => bad _ _ false J k1 hMJ rfl ?_, fun h => absurd rfl h⟩
      by_cases h1 : (zt_ln T (min n 76) i (10 - P - (zt_nms acc).length)).1 = false
      · rw [if_pos h1] at q0; exact q0 rfl J hJ
      · rw [if_neg h1] at q0
        rcases hl with hl | hl
        · exact absurd hl h1
        · obtain ⟨g1, g2, g3⟩ := zt_let_lt hl.2
          have : ¬ zt_s T (min n 76) (zt_ln T (min n 76) i (10 - P - (zt_nms acc).length)).2.2.2 = 59 := by
            unfold zt_s; rw [if_pos g1]; omega
          rw [if_neg (by omega), if_neg this] at q0
          exact q0 rfl J hJ
    · obtain ⟨k4, k5, k6⟩ := k3 hl
      have hl' : ¬ (zt_ln T (min n 76) i (10 - P - (zt_nms acc).length)).1 = false := by rw [hl]; decide
      rw [if_neg hl'] at q0 q1
      have hnl : (zt_nms (acc ++ [((zt_ln T (min n 76) i (10 - P - (zt_nms acc).length)).2.1, (zt_ln T (min n 76) i (10 - P - (zt_nms acc).length)).2.2.1)])).length = (zt_nms acc).length + if (zt_ln T (min n 76) i (10 - P - (zt_nms acc).length)).2.2.1 = 0 then 1 else 0 := by
        rw [zt_nms_app, zt_nms_1, List.length_append]
        congr 1
        show (if (zt_ln T (min n 76) i (10 - P - (zt_nms acc).length)).2.2.1 = 0 then [_] else []).length = _
        split <;> rfl
      have hroom : (if (zt_ln T (min n 76) i (10 - P - (zt_nms acc).length)).2.2.1 = 0 then 10 - P - (zt_nms acc).length - 1 else 10 - P - (zt_nms acc).length) = 10 - P - (zt_nms (acc ++ [((zt_ln T (min n 76) i (10 - P - (zt_nms acc).length)).2.1, (zt_ln T (min n 76) i (10 - P - (zt_nms acc).length)).2.2.1)])).length := by
        rw [hnl]; split <;> omega
      have hP' : P + (zt_nms (acc ++ [((zt_ln T (min n 76) i (10 - P - (zt_nms acc).length)).2.1, (zt_ln T (min n 76) i (10 - P - (zt_nms acc).length)).2.2.1)])).length ≤ 10 := by
        rw [hnl]
        by_cases z : (zt_ln T (min n 76) i (10 - P - (zt_nms acc).length)).2.2.1 = 0
        · have := k6 z; rw [if_pos z]; omega
        · rw [if_neg z]; omega
      rw [hroom] at q0 q1
      generalize zt_ln T (min n 76) i (10 - P - (zt_nms acc).length) = q at *
      refine ⟨hY, fun h => absurd h (by decide), fun _ => zy_179 (I := J) hY hT (by omega) k1 hMJ (s := 59) (by omega) ?_⟩
      split
      · rename_i h59
        have hlt := (zt_s_lt h59 (by omega)).1
        rw [if_neg (by omega), if_pos h59] at q0 q1
        refine ⟨hY, fun h => absurd h (by decide), fun _ => ?_⟩
        have eal : (acc ++ [(q.2.1, q.2.2.1)]).length = acc.length + 1 := by simp
        have nx := ih (q.2.2.2 + 1) (acc ++ [(q.2.1, q.2.2.1)]) (zx_u2 J 132 15 (nI (q.2.2.2 + 1))) (by omega) (by omega) (by omega) hP' (zt_M_at hMJ) (zt_ms_at hsJ) q0
          (fun hz J' hJ' => by
            rw [List.append_assoc] at hJ' ⊢
            exact q1 hz J' hJ')
        rw [eal, ← nI_1] at nx
        exact nx
      · rename_i h59
        refine ⟨hY, fun _ => ?_, fun h => absurd rfl h⟩
        by_cases hnp : n ≤ q.2.2.2
        · rw [if_pos hnp] at q1
          have en : q.2.2.2 = n := by omega
          have nx := q1 rfl J hsJ
          rw [List.length_append] at nx
          refine sg_185_58 hY _ _ _ _ ⟨fun _ => zy_183 (I := J) (lim := 76) (g := true) hY hk.1 (by omega) rfl k1 hMJ.1.1 hMJ.1.2 ⟨hY, fun _ => ?_, fun h => ?_⟩, fun h => absurd rfl h⟩
          · rw [nI_1]; exact nx
          · rw [decide_eq_true en, if_pos (by decide)] at h; exact absurd (show (0 : Int32) ≤ 0 by decide) h
        · rw [if_neg hnp, if_neg h59] at q0
          exact bad _ _ true J k1 hMJ (by rw [decide_eq_false (by omega)]; rfl) (q0 rfl J hsJ.1)
theorem zy_c18 (hY : zx_lay Y) {P : Nat} {acc : List (Nat × Nat)} (hla : acc.length ≤ 76) (hfine : ∀ q ∈ acc, zt_fine q) (hP : P + (zt_nms acc).length ≤ 10) (h3 : I 14 3 = nI acc.length) (hrow : zt_rows I acc) (h7 : I 8 7 = nI P) (hz : ∀ p, P ≤ p → p < 10 → I 9 p = 0)
    (hq : ∀ J, zt_td I J P acc → Qv (zx_u2 J 8 5 0, L, Y)) : zx_Cv l E (d + 1) 18 [.ref 14, .ref 8] (I, L, Y) Qv := by
  refine sg_18_0 hY (zy_c18_2 hY hla hfine hP h3 hrow hq acc [] I rfl ⟨zy_fr_rf _ _, h7, fun p hp => ?_, fun j hj => rfl⟩)
  by_cases h : p < P
  · rw [if_pos h]
  · rw [if_neg h, hz p (by omega) hp]; rfl
/-- people that the reference adds -/
def zt_ap (J : Nat → Nat → Int32) (P : Nat) (ns : List Nat) (k : Nat) : Nat → Nat → Int32 := fun a y => if a = 132 ∧ y = 3 then nI (P + k) else if a = 134 ∧ P ≤ y ∧ y < P + k then nI (ns.getD (y - P) 0) else if (a = 135 ∨ a = 136) ∧ P ≤ y ∧ y < P + k then 0 else J a y
theorem zt_ap_s {J : Nat → Nat → Int32} {P k : Nat} {ns : List Nat} : zx_u2 (zx_u2 (zx_u2 (zx_u2 (zt_ap J P ns k) 134 (P + k) (nI (ns.getD k 0))) 135 (P + k) 0) 136 (P + k) 0) 132 3 (nI (P + (k + 1))) = zt_ap J P ns (k + 1) := by
  funext a y
  simp only [zx_u2, zt_ap]
  repeat' split
  all_goals first | rfl | (exfalso; omega) | (congr 2; omega)
theorem zy_185_115 (hY : zx_lay Y) {I0 : Nat → Nat → Int32} {g : Nat → Int32} {P : Nat} {acc : List (Nat × Nat)} (hs : zt_ms I0 I g acc) (hp : I 132 3 = nI P) (hP : P + (zt_nms acc).length ≤ 10) {x : Int32} (hn : n ≤ 80)
    (hq : Qo (some (.int x)) (zx_u2 (zy_ro (zt_ap I P (zt_nms acc) (zt_nms acc).length) 137 (I 142) 6) 132 10 (if n = 0 then I 132 10 else 0), L, Y)) :
    zx_To l E (d + 1) 185 115 [some (.ref 132), some (.int (nI n)), some (.int x), none, none, none, some (.int 0)] [] (I, L, Y) Qo := by
  obtain ⟨s1, s2, s3, s4⟩ := hs
  have e20 : ∀ k, zt_ap I P (zt_nms acc) k 132 20 = nI (zt_nms acc).length := fun k => by unfold zt_ap; rw [if_neg (by omega), if_neg (by omega), if_neg (by omega)]; exact s2
  have e3 : ∀ k, zt_ap I P (zt_nms acc) k 132 3 = nI (P + k) := fun k => by unfold zt_ap; rw [if_pos ⟨rfl, rfl⟩]
  have goal : zx_To l E (d + 1) 185 115 [some (.ref 132), some (.int (nI n)), some (.int x), none, none, none, some (.int (nI 0))] [] (zt_ap I P (zt_nms acc) 0, L, Y) Qo := by
    refine zy_down (n := (zt_nms acc).length) (P := fun k => zx_To l E (d + 1) 185 115 [some (.ref 132), some (.int (nI n)), some (.int x), none, none, none, some (.int (nI k))] [] (zt_ap I P (zt_nms acc) k, L, Y) Qo) ?_ (fun k hk ih => ?_)
    · refine sg_185_115 hY _ _ _ ⟨fun _ => ?_, fun h => absurd ?_ h⟩
      · have goal2 : zx_To l E (d + 1) 185 179 [some (.ref 132), some (.int (nI n)), some (.int x), none, none, none, some (.int (nI 0))] [] (zy_ro (zt_ap I P (zt_nms acc) (zt_nms acc).length) 137 (I 142) 0, L, Y) Qo := by
          refine zy_down (n := 6) (P := fun j => zx_To l E (d + 1) 185 179 [some (.ref 132), some (.int (nI n)), some (.int x), none, none, none, some (.int (nI j))] [] (zy_ro (zt_ap I P (zt_nms acc) (zt_nms acc).length) 137 (I 142) j, L, Y) Qo) ?_ (fun j hj ih => ?_)
          · have e10 : zy_ro (zt_ap I P (zt_nms acc) (zt_nms acc).length) 137 (I 142) 6 132 10 = I 132 10 := by rw [zy_ro_ne (by omega)]; unfold zt_ap; rw [if_neg (by omega), if_neg (by omega), if_neg (by omega)]
            refine sg_185_179 hY _ _ _ ⟨fun _ => ⟨fun h => ?_, fun h => ?_⟩, fun h => absurd ((zy_6 (by omega)).mpr (Nat.le_refl _)) h⟩
            · rw [zy_le0 (by omega)] at h
              rw [if_pos h] at hq
              rw [e10]; exact hq
            · rw [zy_le0 (by omega)] at h
              rw [if_neg h] at hq; exact hq
          · have hv := vp_in_nI (n := j) (N := 6) hj (by omega)
            have e142 : zy_ro (zt_ap I P (zt_nms acc) (zt_nms acc).length) 137 (I 142) j 142 j = I 142 j := by rw [zy_ro_ne (by omega)]; unfold zt_ap; rw [if_neg (by omega), if_neg (by omega), if_neg (by omega)]
            refine sg_185_179 hY _ _ _ ⟨fun h => absurd ((zy_6 (by omega)).mp h) (by omega), fun _ => ⟨hv, hv, ?_⟩⟩
            rw [nI_clamp (by omega), e142, zy_ro_s, nI_1]; exact ih
        rw [zy_ro_0] at goal2
        exact goal2
      · rw [e20]; exact (nI_leI (by omega) (by omega)).mpr (Nat.le_refl _)
    · have hv := vp_in_nI (n := P + k) (N := 10) (by omega) (by omega)
      have e141 : zt_ap I P (zt_nms acc) k 141 k = nI ((zt_nms acc).getD k 0) := by unfold zt_ap; rw [if_neg (by omega), if_neg (by omega), if_neg (by omega)]; exact s3 k hk
      refine sg_185_115 hY _ _ _ ⟨fun h => ?_, fun _ => ?_⟩
      · rw [e20, nI_leI (by omega) (by omega)] at h; omega
      have e87 : nI (P + k) + 1 = nI (P + (k + 1)) := nI_add _ 1
      rw [e3, nI_clamp (n := k) (by omega), nI_clamp (by omega), e141, e87, zt_ap_s, nI_1]
      exact ⟨vp_in_nI (by omega) (by omega), hv, hv, hv, ih⟩
  have e : zt_ap I P (zt_nms acc) 0 = I := by
    funext a y
    unfold zt_ap
    by_cases q : a = 132 ∧ y = 3
    · rw [if_pos q, q.1, q.2]; exact hp.symm
    · rw [if_neg q, if_neg (by omega), if_neg (by omega)]
  rw [e] at goal
  exact goal
/-- the reference's crowd -/
def zw_md : List (Nat × Nat × Nat) := [(132, 0, 1), (132, 14, 18), (132, 20, 21), (141, 0, 10), (142, 0, 6)]
theorem zy_185 (hY : zx_lay Y) (hk : zt_ok T n 76) (h14 : I 132 14 = nI n) (hT : ∀ j, j < n → I 140 j = nI (T j)) {P : Nat} (hP : P ≤ 10) (hp : I 132 3 = nI P)
    (q0 : n ≠ 0 → (zt_all T (min n 76) n 76 0 (10 - P)).1 = false → ∀ J, zy_fr zw_md I J → J 132 14 = 0 → Q ((-1) - nI (zt_all T (min n 76) n 76 0 (10 - P)).2.1) (J, L, Y))
    (q1 : ∀ acc, (n ≠ 0 → (zt_all T (min n 76) n 76 0 (10 - P)).1 = true ∧ acc = (zt_all T (min n 76) n 76 0 (10 - P)).2.2) → (n = 0 → acc = []) → ∀ J, zy_fr zw_md I J → J 132 14 = 0 → (∀ j, j < 6 → J 142 j = zt_prc (I 137) acc j) → Q (nI acc.length) (zx_u2 (zy_ro (zt_ap J P (zt_nms acc) (zt_nms acc).length) 137 (J 142) 6) 132 10 (if n = 0 then I 132 10 else 0), L, Y)) : zx_Ci l E (d + 4) 185 [.ref 132] (I, L, Y) Q := by
  have hn80 := hk.1
  have emin : (if (76 : Int32) < I 132 14 then (76 : Int32) else I 132 14) = nI (min n 76) := by
    rw [h14]
    have e76 : (76 : Int32) < nI n ↔ 76 < n := nI_ltI (a := 76) (by omega) (by omega)
    by_cases q : 76 < n
    · rw [if_pos (e76.mpr q), show min n 76 = 76 by omega]; rfl
    · rw [if_neg (fun z => q (e76.mp z)), show min n 76 = n by omega]
  refine sg_185_0 hY (sg_178_0 hY _ ⟨_, rfl, hY, ?_⟩)
  show zx_To l E (d + 4) 185 19 [some (.ref 132), some (.int (I 132 14)), some (.int 0), none, none, none, none] [] (zx_u2 (zx_u2 (zx_u2 (zx_u2 (zx_u2 (zx_u2 I 132 0 0) 132 14 0) 132 15 0) 132 17 0) 132 16 (if (76 : Int32) < I 132 14 then (76 : Int32) else I 132 14)) 132 20 0, L, Y) _
  rw [emin, h14]
  have fr0 : zy_fr zw_md I (zx_u2 (zx_u2 (zx_u2 (zx_u2 (zx_u2 (zx_u2 I 132 0 0) 132 14 0) 132 15 0) 132 17 0) 132 16 (nI (min n 76))) 132 20 0) := by
    refine zy_fr_u2 (zy_fr_u2 (zy_fr_u2 (zy_fr_u2 (zy_fr_u2 (zy_fr_u2 (zy_fr_rf _ _) ?_) ?_) ?_) ?_) ?_) ?_
    · exact zy_in_at 0 132 0 1 0 rfl (by omega) (by omega)
    · exact zy_in_at 1 132 14 18 14 rfl (by omega) (by omega)
    · exact zy_in_at 1 132 14 18 15 rfl (by omega) (by omega)
    · exact zy_in_at 1 132 14 18 17 rfl (by omega) (by omega)
    · exact zy_in_at 1 132 14 18 16 rfl (by omega) (by omega)
    · exact zy_in_at 2 132 20 21 20 rfl (by omega) (by omega)
  have b16 : (zx_u2 (zx_u2 (zx_u2 (zx_u2 (zx_u2 (zx_u2 I 132 0 0) 132 14 0) 132 15 0) 132 17 0) 132 16 (nI (min n 76))) 132 20 0) 132 16 = nI (min n 76) := by rw [zy_u2_nk (by omega), zy_u2_self]
  have b15 : (zx_u2 (zx_u2 (zx_u2 (zx_u2 (zx_u2 (zx_u2 I 132 0 0) 132 14 0) 132 15 0) 132 17 0) 132 16 (nI (min n 76))) 132 20 0) 132 15 = nI 0 := by rw [zy_u2_nk (by omega), zy_u2_nk (by omega), zy_u2_nk (by omega), zy_u2_self]; rfl
  have b14 : (zx_u2 (zx_u2 (zx_u2 (zx_u2 (zx_u2 (zx_u2 I 132 0 0) 132 14 0) 132 15 0) 132 17 0) 132 16 (nI (min n 76))) 132 20 0) 132 14 = 0 := by rw [zy_u2_nk (by omega), zy_u2_nk (by omega), zy_u2_nk (by omega), zy_u2_nk (by omega), zy_u2_self]
  have b20 : (zx_u2 (zx_u2 (zx_u2 (zx_u2 (zx_u2 (zx_u2 I 132 0 0) 132 14 0) 132 15 0) 132 17 0) 132 16 (nI (min n 76))) 132 20 0) 132 20 = 0 := by rw [zy_u2_self]
  generalize zx_u2 (zx_u2 (zx_u2 (zx_u2 (zx_u2 (zx_u2 I 132 0 0) 132 14 0) 132 15 0) 132 17 0) 132 16 (nI (min n 76))) 132 20 0 = B at *
  have B137 : ∀ j, B 137 j = I 137 j := fun j => fr0 137 j (fun ⟨w, hw, e1, e2, e3⟩ => by
    simp only [zw_md, List.mem_cons, List.not_mem_nil, or_false] at hw
    rcases hw with rfl | rfl | rfl | rfl | rfl <;> simp at e1)
  have goal : zx_To l E (d + 4) 185 19 [some (.ref 132), some (.int (nI n)), some (.int (nI 0)), none, none, none, none] [] (zy_ro B 142 (I 137) 0, L, Y) (fun r M' => ∃ v, r = some (.int v) ∧ Q v M') := by
    refine zy_down (n := 6) (P := fun j => zx_To l E (d + 4) 185 19 [some (.ref 132), some (.int (nI n)), some (.int (nI j)), none, none, none, none] [] (zy_ro B 142 (I 137) j, L, Y) (fun r M' => ∃ v, r = some (.int v) ∧ Q v M')) ?_ (fun j hj ih => ?_)
    · have fr6 : zy_fr zw_md I (zy_ro B 142 (I 137) 6) := fun a k hk => by
        have g : ¬ (a = 142 ∧ k < 6) := fun q => hk (by rw [q.1]; exact zy_in_at 4 142 0 6 k rfl (by omega) q.2)
        unfold zy_ro; rw [if_neg g]; exact fr0 a k hk
      have c16 : zy_ro B 142 (I 137) 6 132 16 = nI (min n 76) := by rw [zy_ro_ne (by omega)]; exact b16
      have c15 : zy_ro B 142 (I 137) 6 132 15 = nI 0 := by rw [zy_ro_ne (by omega)]; exact b15
      have c14 : zy_ro B 142 (I 137) 6 132 14 = 0 := by rw [zy_ro_ne (by omega)]; exact b14
      have c20 : zy_ro B 142 (I 137) 6 132 20 = 0 := by rw [zy_ro_ne (by omega)]; exact b20
      have c3 : zy_ro B 142 (I 137) 6 132 3 = nI P := by rw [zy_fr_at fr6 132 3 (by decide)]; exact hp
      have c10 : zy_ro B 142 (I 137) 6 132 10 = I 132 10 := by rw [zy_fr_at fr6 132 10 (by decide)]
      have c142 : ∀ j, j < 6 → zy_ro B 142 (I 137) 6 142 j = I 137 j := fun j hj => zy_ro_in hj
      have c140 : ∀ j, j < 80 → zy_ro B 142 (I 137) 6 140 j = I 140 j := fun j hj => zy_fr_row fr6 140 80 (by decide) hj
      generalize zy_ro B 142 (I 137) 6 = C at *
      have hM : zt_M C T (min n 76) 0 := ⟨⟨c16, c15⟩, fun j hj => by rw [c140 j (by omega)]; exact hT j (by omega)⟩
      have hs : zt_ms C C (I 137) [] := ⟨zy_fr_rf _ _, c20, fun j hj => absurd hj (Nat.not_lt_zero _), c142⟩
      -- behind the reading
      have fin : ∀ (acc : List (Nat × Nat)) (J : Nat → Nat → Int32), (n ≠ 0 → (zt_all T (min n 76) n 76 0 (10 - P)).1 = true ∧ acc = (zt_all T (min n 76) n 76 0 (10 - P)).2.2) → (n = 0 → acc = []) → zt_ms C J (I 137) acc → zx_To l E (d + 4) 185 115 [some (.ref 132), some (.int (nI n)), some (.int (nI acc.length)), none, none, none, some (.int 0)] [] (J, L, Y) (fun r M' => ∃ v, r = some (.int v) ∧ Q v M') := by
        intro acc J ha ha0 hJ
        have hPn : P + (zt_nms acc).length ≤ 10 := by
          by_cases h0 : n = 0
          · rw [ha0 h0]; exact hP
          · obtain ⟨a1, a2⟩ := ha h0
            have := (zt_all_ok (T := T) (to := min n 76) (n := n) 76 0 (10 - P) (Nat.zero_le _) a1).2.1
            rw [a2]; omega
        have frJ : zy_fr zw_md I J := zy_fr_tr fr6 (zy_fr_mono hJ.1 (by decide))
        refine zy_185_115 hY hJ (by rw [zy_fr_at hJ.1 132 3 (by decide)]; exact c3) hPn hn80 ?_
        have := q1 acc ha ha0 J frJ (by rw [zy_fr_at hJ.1 132 14 (by decide)]; exact c14) hJ.2.2.2
        rw [zy_fr_at hJ.1 132 10 (by decide), c10]
        exact ⟨_, rfl, this⟩
      refine sg_185_19 hY _ _ ⟨fun _ => ⟨fun h => ?_, fun h => ?_⟩, fun h => absurd ((zy_6 (by omega)).mpr (Nat.le_refl _)) h⟩
      · rw [zy_le0 (by omega)] at h
        subst h
        refine sg_185_58 hY _ _ _ _ ⟨fun _ => zy_183 (n := 0) (lim := 76) (g := true) hY (by omega) (by omega) rfl (Nat.zero_le _) c16 c15 ⟨hY, fun _ => ?_, fun h => absurd (by decide) h⟩, fun h => absurd rfl h⟩
        exact fin [] C (fun h => absurd rfl h) (fun _ => rfl) hs
      · rw [zy_le0 (by omega)] at h
        refine zy_185_58 (P := P) (I0 := C) (g := I 137) hY hk c3 c16 76 0 [] C rfl (by simp) (Nat.zero_le _) (by simpa [zt_nms] using hP) hM hs (fun hz J hJ => ?_) (fun hz J hJ => ?_)
        · exact ⟨_, rfl, q0 h hz J (zy_fr_tr fr6 (zy_fr_mono hJ (by decide))) (by rw [zy_fr_at hJ 132 14 (by decide)]; exact c14)⟩
        · exact fin _ J (fun _ => ⟨hz, rfl⟩) (fun z => absurd z h) hJ
    · have hv := vp_in_nI (n := j) (N := 6) hj (by omega)
      refine sg_185_19 hY _ _ ⟨fun h => absurd ((zy_6 (by omega)).mp h) (by omega), fun _ => ⟨hv, hv, ?_⟩⟩
      have e137 : zy_ro B 142 (I 137) j 137 j = I 137 j := by rw [zy_ro_ne (by omega)]; exact B137 j
      rw [nI_clamp (by omega), e137, zy_ro_s, nI_1]; exact ih
  rw [zy_ro_0] at goal
  exact goal
end YCt
