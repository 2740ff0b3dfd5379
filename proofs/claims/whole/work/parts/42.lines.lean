/-! ===== the crowd's text: lines ===== -/
/-- one line: is it fine, code, price, the place behind -/
def zt_ln (T : Nat → Nat) (to i room : Nat) : Bool × Nat × Nat × Nat :=
  if (zt_run T to 8 i 0).1 = 0 then (false, 0, 0, (zt_run T to 8 i 0).2)
  else if (zt_run T to 8 i 0).2 = i + 1 ∧ zt_s T to (zt_run T to 8 i 0).2 = 61 then
    (if zt_dig (zt_s T to ((zt_run T to 8 i 0).2 + 1)) then (true, (zt_run T to 8 i 0).1, T ((zt_run T to 8 i 0).2 + 1) - 48, (zt_run T to 8 i 0).2 + 2) else (false, 0, 0, (zt_run T to 8 i 0).2 + 1))
  else if room = 0 then (false, 0, 0, (zt_run T to 8 i 0).2) else (true, (zt_run T to 8 i 0).1, 0, (zt_run T to 8 i 0).2)
def zt_all (T : Nat → Nat) (to n : Nat) : Nat → Nat → Nat → Bool × Nat × List (Nat × Nat)
  | 0, i, _ => (false, i, [])
  | f + 1, i, room =>
    if (zt_ln T to i room).1 = false then (false, (zt_ln T to i room).2.2.2, [])
    else if n ≤ (zt_ln T to i room).2.2.2 then (true, (zt_ln T to i room).2.2.2, [((zt_ln T to i room).2.1, (zt_ln T to i room).2.2.1)])
    else if zt_s T to (zt_ln T to i room).2.2.2 = 59 then
      ((zt_all T to n f ((zt_ln T to i room).2.2.2 + 1) (if (zt_ln T to i room).2.2.1 = 0 then room - 1 else room)).1, (zt_all T to n f ((zt_ln T to i room).2.2.2 + 1) (if (zt_ln T to i room).2.2.1 = 0 then room - 1 else room)).2.1,
        ((zt_ln T to i room).2.1, (zt_ln T to i room).2.2.1) :: (zt_all T to n f ((zt_ln T to i room).2.2.2 + 1) (if (zt_ln T to i room).2.2.1 = 0 then room - 1 else room)).2.2)
    else (false, (zt_ln T to i room).2.2.2, [])
def zt_nms (acc : List (Nat × Nat)) : List Nat := (acc.filter (fun q => decide (q.2 = 0))).map (·.1)
def zt_p1 (g : Nat → Int32) (q : Nat × Nat) : Nat → Int32 := if q.2 = 0 then g else fun j => if j = q.1 - 1 then nI q.2 else g j
def zt_prc (g : Nat → Int32) (acc : List (Nat × Nat)) : Nat → Int32 := acc.foldl zt_p1 g
def zt_fine (q : Nat × Nat) : Prop := q.1 ≠ 0 ∧ q.1 < 5764801 ∧ zy_dig q.1 = true ∧ q.2 ≤ 9 ∧ (q.2 ≠ 0 → q.1 ≤ 6)
theorem zt_nms_app (a b : List (Nat × Nat)) : zt_nms (a ++ b) = zt_nms a ++ zt_nms b := by unfold zt_nms; rw [List.filter_append, List.map_append]
theorem zt_nms_1 (q : Nat × Nat) : zt_nms [q] = if q.2 = 0 then [q.1] else [] := by
  unfold zt_nms
  by_cases h : q.2 = 0
  · rw [if_pos h]; simp [h]
  · rw [if_neg h]; simp [h]
theorem zt_prc_app (g : Nat → Int32) (a b : List (Nat × Nat)) : zt_prc g (a ++ b) = zt_prc (zt_prc g a) b := by unfold zt_prc; rw [List.foldl_append]
theorem zt_ln_ok {T : Nat → Nat} {to i room : Nat} (hi : i ≤ to) : (zt_ln T to i room).2.2.2 ≤ to ∧ i ≤ (zt_ln T to i room).2.2.2 ∧ ((zt_ln T to i room).1 = true → i + 1 ≤ (zt_ln T to i room).2.2.2 ∧ zt_fine ((zt_ln T to i room).2.1, (zt_ln T to i room).2.2.1) ∧ ((zt_ln T to i room).2.2.1 = 0 → room ≠ 0)) := by
  obtain ⟨r1, r2, r3, r4, r5, r6, r7⟩ := zt_run_ok (T := T) (to := to) 8 i 0 hi zy_dig_0 (by decide) (Nat.le_refl _)
  rw [zy_len_0, Nat.zero_add] at r6
  unfold zt_ln
  generalize zt_run T to 8 i 0 = r at *
  by_cases h1 : r.1 = 0
  · rw [if_pos h1]; exact ⟨r3, r4, fun q => by cases q⟩
  · rw [if_neg h1]
    have hl : zy_len r.1 ≠ 0 := fun q => h1 (zy_len_pos.mp q)
    by_cases h2 : r.2 = i + 1 ∧ zt_s T to r.2 = 61
    · rw [if_pos h2]
      have h61 := (zt_s_lt h2.2 (by omega)).1
      by_cases h3 : zt_dig (zt_s T to (r.2 + 1)) = true
      · rw [if_pos h3]
        obtain ⟨g1, g2, g3⟩ := zt_dig_lt h3
        refine ⟨by show r.2 + 2 ≤ to; omega, by show i ≤ r.2 + 2; omega, fun _ => ⟨by show i + 1 ≤ r.2 + 2; omega, ⟨h1, r2, r1, by show T (r.2 + 1) - 48 ≤ 9; omega, fun _ => ?_⟩, fun q => absurd q (by show T (r.2 + 1) - 48 ≠ 0; omega)⟩⟩
        have : r.1 < 7 ^ 1 := (zy_len_lt 1 r.1).mp (by omega)
        show r.1 ≤ 6; omega
      · rw [if_neg h3]; exact ⟨by show r.2 + 1 ≤ to; omega, by show i ≤ r.2 + 1; omega, fun q => by cases q⟩
    · rw [if_neg h2]
      by_cases h4 : room = 0
      · rw [if_pos h4]; exact ⟨r3, r4, fun q => by cases q⟩
      · rw [if_neg h4]
        exact ⟨r3, r4, fun _ => ⟨by show i + 1 ≤ r.2; omega, ⟨h1, r2, r1, Nat.zero_le _, fun q => absurd rfl q⟩, fun _ => h4⟩⟩
theorem zt_all_ok {T : Nat → Nat} {to n : Nat} : ∀ (f i room : Nat), i ≤ to → (zt_all T to n f i room).1 = true → (∀ q ∈ (zt_all T to n f i room).2.2, zt_fine q) ∧ (zt_nms (zt_all T to n f i room).2.2).length ≤ room ∧ (zt_all T to n f i room).2.2 ≠ [] ∧ (zt_all T to n f i room).2.2.length ≤ f
  | 0, i, room, _, h => by cases h
  | f + 1, i, room, hi, h => by
    obtain ⟨k1, k2, k3⟩ := zt_ln_ok (T := T) (room := room) hi
    rw [zt_all] at h ⊢
    generalize zt_ln T to i room = q at *
    by_cases h1 : q.1 = false
    · rw [if_pos h1] at h; cases h
    · rw [if_neg h1] at h ⊢
      obtain ⟨k4, k5, k6⟩ := k3 (by simpa using h1)
      have one : (zt_nms [(q.2.1, q.2.2.1)]).length ≤ (if q.2.2.1 = 0 then 1 else 0) := by
        rw [zt_nms_1]
        show (if q.2.2.1 = 0 then [q.2.1] else []).length ≤ _
        split <;> simp
      by_cases h2 : n ≤ q.2.2.2
      · rw [if_pos h2]
        refine ⟨fun z hz => ?_, ?_, by simp, by simp⟩
        · rw [List.mem_singleton] at hz; rw [hz]; exact k5
        · show (zt_nms [(q.2.1, q.2.2.1)]).length ≤ room
          refine Nat.le_trans one ?_
          split
          · have := k6 (by assumption); omega
          · omega
      · rw [if_neg h2] at h ⊢
        by_cases h3 : zt_s T to q.2.2.2 = 59
        · rw [if_pos h3] at h ⊢
          have hlt := (zt_s_lt h3 (by omega)).1
          obtain ⟨a1, a2, a3, a4⟩ := zt_all_ok f (q.2.2.2 + 1) (if q.2.2.1 = 0 then room - 1 else room) (by omega) h
          refine ⟨fun z hz => ?_, ?_, by simp, by simp; exact a4⟩
          · rcases List.mem_cons.mp hz with e | e
            · rw [e]; exact k5
            · exact a1 z e
          · show (zt_nms ([(q.2.1, q.2.2.1)] ++ _)).length ≤ room
            rw [zt_nms_app, List.length_append]
            refine Nat.le_trans (Nat.add_le_add one a2) ?_
            split
            · have := k6 (by assumption); omega
            · omega
        · rw [if_neg h3] at h; cases h
def zw_ct : List (Nat × Nat × Nat) := [(4, 2, 6), (14, 3, 5), (15, 0, 76), (16, 0, 76)]
def zt_rows (J : Nat → Nat → Int32) (acc : List (Nat × Nat)) : Prop := ∀ (j : Nat) (q : Nat × Nat), acc[j]? = some q → J 15 j = nI q.1 ∧ J 16 j = nI q.2
section YLn
variable {l : Launch} {E : zx_E} {d : Nat} {I : Nat → Nat → Int32} {L : Nat → Nat → Int64} {Y : zx_Y} {Qo : Option Value → zx_M → Prop} {Q : Int32 → zx_M → Prop} {Qv : zx_M → Prop} {T : Nat → Nat} {n i to : Nat}
theorem zt_tn_fr {j c k : Nat} (h : zy_fr zw_ct I I) : zy_fr zw_ct I (zt_tn I j c k) := by
  intro a y hk
  have g : ∀ j a' lo hi, zw_ct[j]? = some (a', lo, hi) → ¬ (a = a' ∧ lo ≤ y ∧ y < hi) := fun j a' lo hi h q => hk (by rw [q.1]; exact zy_in_at j a' lo hi y h q.2.1 q.2.2)
  have g0 := g 0 4 2 6 rfl
  unfold zt_tn
  rw [if_neg (by omega), if_neg (by omega), if_neg (by omega)]
theorem zt_tn_el {j c k a y : Nat} (h : a ≠ 4) : zt_tn I j c k a y = I a y := by unfold zt_tn; rw [if_neg (fun q => h q.1), if_neg (fun q => h q.1), if_neg (fun q => h q.1)]
theorem zy_c17 (hY : zx_lay Y) (hk : zt_ok T n 76) (hi : i ≤ min n 76) (hC : zt_C I T n 76 i) {room : Nat} (hr : room ≤ 10) (h4 : I 14 4 = nI room) {acc : List (Nat × Nat)} (h3 : I 14 3 = nI acc.length) (hl : acc.length < 76) (hrow : zt_rows I acc)
    (hq0 : (zt_ln T (min n 76) i room).1 = false → ∀ J, zy_fr zw_ct I J → zt_C J T n 76 (zt_ln T (min n 76) i room).2.2.2 → Q 0 (J, L, Y))
    (hq1 : (zt_ln T (min n 76) i room).1 = true → ∀ J, zy_fr zw_ct I J → zt_C J T n 76 (zt_ln T (min n 76) i room).2.2.2 → J 14 4 = nI (if (zt_ln T (min n 76) i room).2.2.1 = 0 then room - 1 else room) → J 14 3 = nI (acc.length + 1) → zt_rows J (acc ++ [((zt_ln T (min n 76) i room).2.1, (zt_ln T (min n 76) i room).2.2.1)]) → Q 1 (J, L, Y)) : zx_Ci l E (d + 2) 17 [.ref 14] (I, L, Y) Q := by
  have hn80 := hk.1
  obtain ⟨r1, r2, r3, r4, r5, r6, r7⟩ := zt_run_ok (T := T) (to := min n 76) 8 i 0 hi zy_dig_0 (by decide) (Nat.le_refl _)
  rw [zy_len_0, Nat.zero_add] at r6
  unfold zt_ln at hq0 hq1
  refine sg_17_0 hY (zy_116 hY hk hi hC ⟨hY, ?_⟩)
  generalize zt_run T (min n 76) 8 i 0 = r at *
  have hCt := zt_C_tn (j := r.2) (c := r.1) (k := r.2 - i) hC
  have frt := zt_tn_fr (I := I) (j := r.2) (c := r.1) (k := r.2 - i) (zy_fr_rf _ _)
  have v4 : zt_tn I r.2 r.1 (r.2 - i) 4 4 = nI r.1 := by unfold zt_tn; rw [if_neg (by omega), if_pos ⟨rfl, rfl⟩]
  have v5 : zt_tn I r.2 r.1 (r.2 - i) 4 5 = nI (r.2 - i) := by unfold zt_tn; rw [if_neg (by omega), if_neg (by omega), if_pos ⟨rfl, rfl⟩]
  have v143 : zt_tn I r.2 r.1 (r.2 - i) 14 3 = nI acc.length := by rw [zt_tn_el (by omega)]; exact h3
  have v144 : zt_tn I r.2 r.1 (r.2 - i) 14 4 = nI room := by rw [zt_tn_el (by omega)]; exact h4
  have v15 : ∀ y, zt_tn I r.2 r.1 (r.2 - i) 15 y = I 15 y := fun y => zt_tn_el (by omega)
  have v16 : ∀ y, zt_tn I r.2 r.1 (r.2 - i) 16 y = I 16 y := fun y => zt_tn_el (by omega)
  generalize zt_tn I r.2 r.1 (r.2 - i) = J at *
  have hv := vp_in_nI (n := acc.length) (N := 76) hl (by omega)
  have w3 : zy_in zw_ct 14 3 := zy_in_at 1 14 3 5 3 rfl (by omega) (by omega)
  have w4 : zy_in zw_ct 14 4 := zy_in_at 1 14 3 5 4 rfl (by omega) (by omega)
  have w15 : zy_in zw_ct 15 acc.length := zy_in_at 2 15 0 76 _ rfl (by omega) hl
  have w16 : zy_in zw_ct 16 acc.length := zy_in_at 3 16 0 76 _ rfl (by omega) hl
  have w43 : zy_in zw_ct 4 3 := zy_in_at 0 4 2 6 3 rfl (by omega) (by omega)
  show (J 4 5 = 0 → _) ∧ (¬ J 4 5 = 0 → (J 14 3 < 76 → (¬ J 4 5 = 1 → (¬ J 14 4 = 0 → vp_in (J 14 3) 76 ∧ vp_in (J 14 3) 76 ∧ ∃ v, some (Value.int 1) = some (.int v) ∧ Q v (zx_u2 (zx_u2 (zx_u2 (zx_u2 J 14 4 (J 14 4 - 1)) 15 (J 14 3).toNatClampNeg (J 4 4)) 16 (J 14 3).toNatClampNeg 0) 14 3 (J 14 3 + 1), L, Y)) ∧ _) ∧ (J 4 5 = 1 → _)) ∧ _)
  have rowsN : ∀ (K : Nat → Nat → Int32) (c p : Nat), (∀ y, y ≠ acc.length → K 15 y = I 15 y ∧ K 16 y = I 16 y) → K 15 acc.length = nI c → K 16 acc.length = nI p → zt_rows K (acc ++ [(c, p)]) := by
    intro K c p hK1 hK2 hK3 j q hj
    by_cases e : j < acc.length
    · rw [List.getElem?_append_left e] at hj
      rw [(hK1 j (by omega)).1, (hK1 j (by omega)).2]; exact hrow j q hj
    · rw [List.getElem?_append_right (by omega)] at hj
      have : j - acc.length = 0 := by
        by_cases z : j - acc.length = 0
        · exact z
        · rw [List.getElem?_eq_none (by simp; omega)] at hj; cases hj
      rw [this] at hj
      cases hj
      have ej : j = acc.length := by omega
      subst ej
      exact ⟨hK2, hK3⟩
  -- a name
  have name : ¬ r.1 = 0 → ¬ (r.2 = i + 1 ∧ zt_s T (min n 76) r.2 = 61) → room ≠ 0 → Q 1 (zx_u2 (zx_u2 (zx_u2 (zx_u2 J 14 4 (nI room - 1)) 15 acc.length (nI r.1)) 16 acc.length 0) 14 3 (nI (acc.length + 1)), L, Y) := fun a1 a2 a3 => by
    rw [if_neg a1, if_neg a2, if_neg a3] at hq1
    refine hq1 rfl _ (zy_fr_u2 (zy_fr_u2 (zy_fr_u2 (zy_fr_u2 frt w4) w15) w16) w3) (zt_C_cong hn80 hCt (fun a k hk => ?_)) ?_ ?_ (rowsN _ _ _ (fun y hy => ⟨?_, ?_⟩) ?_ ?_)
    · have hin : a = 4 ∨ a = 5 := by
        obtain ⟨w, hw, e1, e2, e3⟩ := hk
        simp only [List.mem_cons, List.not_mem_nil, or_false] at hw
        rcases hw with rfl | rfl <;> simp at e1 <;> omega
      rw [zy_u2_na (by omega), zy_u2_na (by omega), zy_u2_na (by omega), zy_u2_na (by omega)]
    · rw [if_pos rfl, zy_u2_nk (by omega), zy_u2_na (by omega), zy_u2_na (by omega), zy_u2_self]; exact pk_sub (b := 1) (by omega)
    · rw [zy_u2_self]
    · rw [zy_u2_na (by omega), zy_u2_na (by omega), zy_u2_nk hy, zy_u2_na (by omega)]; exact v15 y
    · rw [zy_u2_na (by omega), zy_u2_nk hy, zy_u2_na (by omega), zy_u2_na (by omega)]; exact v16 y
    · rw [zy_u2_na (by omega), zy_u2_na (by omega), zy_u2_self]
    · rw [zy_u2_na (by omega), zy_u2_self]; rfl
  have roomless : ¬ r.1 = 0 → ¬ (r.2 = i + 1 ∧ zt_s T (min n 76) r.2 = 61) → room = 0 → Q 0 (J, L, Y) := fun a1 a2 a3 => by
    rw [if_neg a1, if_neg a2, if_pos a3] at hq0
    exact hq0 rfl J frt hCt
  have hl0 : r.1 = 0 ↔ r.2 - i = 0 := by rw [← r6]; exact zy_len_pos.symm
  rw [v5, v143, v144, v4, nI_clamp (by omega), nI_1, zy_eq0 (by omega), zy_eq0 (by omega)]
  have e1 : nI (r.2 - i) = 1 ↔ r.2 = i + 1 := by
    rw [show (1 : Int32) = nI 1 by decide, nI_eq (by omega) (by omega)]; omega
  rw [e1]
  refine ⟨fun h => ⟨_, rfl, ?_⟩, fun h => ⟨fun _ => ⟨fun h2 => ⟨fun h5 => ⟨hv, hv, _, rfl, ?_⟩, fun h5 => ⟨_, rfl, ?_⟩⟩, fun h2 => ?_⟩, fun h2 => ?_⟩⟩
  · rw [if_pos (hl0.mpr h)] at hq0
    exact hq0 rfl J frt hCt
  · exact name (fun q => h (hl0.mp q)) (fun q => h2 q.1) h5
  · have h5 : J 14 4 = 0 := h5
    rw [v144, zy_eq0 (by omega)] at h5
    exact roomless (fun q => h (hl0.mp q)) (fun q => h2 q.1) h5
  · refine zy_114 (I := J) hY hk (by omega) hCt (s := 61) (by omega) ?_
    split
    · rename_i h61
      have hs := (zt_s_lt h61 (by omega)).1
      refine ⟨hY, fun q => absurd q (by decide), fun _ => ?_⟩
      have hC2 := zt_C_at (j := r.2 + 1) hCt
      refine zy_115 (I := zx_u2 J 4 3 (nI (r.2 + 1))) hY hk (by omega) hC2 ?_
      rw [if_neg (fun q => h (hl0.mp q)), if_pos ⟨h2, h61⟩] at hq0 hq1
      split
      · rename_i hd
        obtain ⟨g1, g2, g3⟩ := zt_dig_lt hd
        rw [if_pos hd] at hq1
        have k143 : zx_u2 (zx_u2 J 4 3 (nI (r.2 + 1))) 4 3 (nI (r.2 + 1 + 1)) 14 3 = nI acc.length := by rw [zy_u2_na (by omega), zy_u2_na (by omega)]; exact v143
        have k44 : zx_u2 (zx_u2 J 4 3 (nI (r.2 + 1))) 4 3 (nI (r.2 + 1 + 1)) 4 4 = nI r.1 := by rw [zy_u2_nk (by omega), zy_u2_nk (by omega)]; exact v4
        refine ⟨hY, fun _ => ?_, fun q => absurd ((zy_eq0 (by omega)).mp q) (by omega)⟩
        show vp_in (zx_u2 (zx_u2 J 4 3 (nI (r.2 + 1))) 4 3 (nI (r.2 + 1 + 1)) 14 3) 76 ∧ vp_in (zx_u2 (zx_u2 J 4 3 (nI (r.2 + 1))) 4 3 (nI (r.2 + 1 + 1)) 14 3) 76 ∧ ∃ v, some (Value.int 1) = some (.int v) ∧ Q v (zx_u2 (zx_u2 (zx_u2 (zx_u2 (zx_u2 J 4 3 (nI (r.2 + 1))) 4 3 (nI (r.2 + 1 + 1))) 15 (zx_u2 (zx_u2 J 4 3 (nI (r.2 + 1))) 4 3 (nI (r.2 + 1 + 1)) 14 3).toNatClampNeg (zx_u2 (zx_u2 J 4 3 (nI (r.2 + 1))) 4 3 (nI (r.2 + 1 + 1)) 4 4)) 16 (zx_u2 (zx_u2 J 4 3 (nI (r.2 + 1))) 4 3 (nI (r.2 + 1 + 1)) 14 3).toNatClampNeg (nI (T (r.2 + 1) - 48))) 14 3 (zx_u2 (zx_u2 J 4 3 (nI (r.2 + 1))) 4 3 (nI (r.2 + 1 + 1)) 14 3 + 1), L, Y)
        rw [k143, k44, nI_clamp (by omega), nI_1]
        refine ⟨hv, hv, _, rfl, hq1 rfl _ (zy_fr_u2 (zy_fr_u2 (zy_fr_u2 (zy_fr_u2 (zy_fr_u2 frt w43) w43) w15) w16) w3) (zt_C_cong (i := r.2 + 2) hn80 (zt_C_at hC2) (fun a k hk => ?_)) ?_ ?_ (rowsN _ _ _ (fun y hy => ⟨?_, ?_⟩) ?_ ?_)⟩
        · have hin : a = 4 ∨ a = 5 := by
            obtain ⟨w, hw, e1, e2, e3⟩ := hk
            simp only [List.mem_cons, List.not_mem_nil, or_false] at hw
            rcases hw with rfl | rfl <;> simp at e1 <;> omega
          rw [zy_u2_na (by omega), zy_u2_na (by omega), zy_u2_na (by omega)]
        · rw [if_neg (show T (r.2 + 1) - 48 ≠ 0 by omega), zy_u2_nk (by omega), zy_u2_na (by omega), zy_u2_na (by omega), zy_u2_na (by omega), zy_u2_na (by omega)]; exact v144
        · rw [zy_u2_self]
        · rw [zy_u2_na (by omega), zy_u2_na (by omega), zy_u2_nk hy, zy_u2_na (by omega), zy_u2_na (by omega)]; exact v15 y
        · rw [zy_u2_na (by omega), zy_u2_nk hy, zy_u2_na (by omega), zy_u2_na (by omega), zy_u2_na (by omega)]; exact v16 y
        · rw [zy_u2_na (by omega), zy_u2_na (by omega), zy_u2_self]
        · rw [zy_u2_na (by omega), zy_u2_self]
      · rename_i hd
        rw [if_neg hd] at hq0
        exact ⟨hY, fun q => absurd rfl q, fun _ => ⟨_, rfl, hq0 rfl _ (zy_fr_u2 frt w43) hC2⟩⟩
    · rename_i h61
      refine ⟨hY, fun _ => ?_, fun q => absurd rfl q⟩
      show (¬ J 14 4 = 0 → vp_in (J 14 3) 76 ∧ vp_in (J 14 3) 76 ∧ ∃ v, some (Value.int 1) = some (.int v) ∧ Q v (zx_u2 (zx_u2 (zx_u2 (zx_u2 J 14 4 (J 14 4 - 1)) 15 (J 14 3).toNatClampNeg (J 4 4)) 16 (J 14 3).toNatClampNeg 0) 14 3 (J 14 3 + 1), L, Y)) ∧ (J 14 4 = 0 → _)
      rw [v143, v144, v4, nI_clamp (by omega), nI_1, zy_eq0 (by omega)]
      exact ⟨fun h5 => ⟨hv, hv, _, rfl, name (fun q => h (hl0.mp q)) (fun q => h61 q.2) h5⟩, fun h5 => ⟨_, rfl, roomless (fun q => h (hl0.mp q)) (fun q => h61 q.2) h5⟩⟩
  · have h2 : ¬ J 14 3 < 76 := h2
    rw [v143] at h2
    exact absurd ((nI_ltI (b := 76) (by omega) (by omega)).mpr hl) h2
theorem zy_c16_34 (hY : zx_lay Y) (hk : zt_ok T n 76) : ∀ (f i room : Nat) (acc : List (Nat × Nat)) (I0 I : Nat → Nat → Int32), f + acc.length = 76 → i ≤ min n 76 → room ≤ 10 → zy_fr zw_ct I0 I → zt_C I T n 76 i → I 14 4 = nI room → I 14 3 = nI acc.length → zt_rows I acc →
    ((zt_all T (min n 76) n f i room).1 = false → ∀ J, zy_fr zw_ct I0 J → Q ((-1) - nI (zt_all T (min n 76) n f i room).2.1) (J, L, Y)) →
    ((zt_all T (min n 76) n f i room).1 = true → ∀ J, zy_fr zw_ct I0 J → J 14 3 = nI (acc ++ (zt_all T (min n 76) n f i room).2.2).length → zt_rows J (acc ++ (zt_all T (min n 76) n f i room).2.2) → Q (nI (acc ++ (zt_all T (min n 76) n f i room).2.2).length) (J, L, Y)) →
    zx_To l E (d + 3) 16 34 [some (.ref 14), none, some (.int (nI acc.length))] [] (I, L, Y) (fun r M' => ∃ v, r = some (.int v) ∧ Q v M') := by
  have h76 : ∀ k : Nat, k < 2 ^ 31 → ((76 : Int32) ≤ nI k ↔ 76 ≤ k) := fun k hk => nI_leI (a := 76) (by omega) hk
  have fault : ∀ (I0 I : Nat → Nat → Int32) (i : Nat) (K : Int32 → zx_M → Prop), zt_C I T n 76 i → K ((-1) - nI i) (I, L, Y) → zx_Ci l E (d + 2) 113 [.ref 4] (I, L, Y) K := fun I0 I i K hC hq => sg_113_0 hY ⟨_, rfl, by rw [hC.1.2.2]; exact hq⟩
  have hn80 := hk.1
  intro f
  induction f with
  | zero =>
    intro i room acc I0 I hf hi hr hfr hC h4 h3 hrow q0 q1
    exact sg_16_34 hY _ ⟨fun _ => fault I0 I i _ hC ⟨hY, _, rfl, q0 rfl I hfr⟩, fun h => absurd ((h76 _ (by omega)).mpr (by omega)) h⟩
  | succ f ih =>
    intro i room acc I0 I hf hi hr hfr hC h4 h3 hrow q0 q1
    obtain ⟨k1, k2, k3⟩ := zt_ln_ok (T := T) (room := room) hi
    rw [zt_all] at q0 q1
    refine sg_16_34 hY _ ⟨fun h => absurd ((h76 _ (by omega)).mp h) (by omega), fun _ => zy_c17 hY hk hi hC hr h4 h3 (by omega) hrow (fun hl J hJ hCJ => ?_) (fun hl J hJ hCJ j4 j3 jr => ?_)⟩
    · rw [if_pos hl] at q0
      exact ⟨hY, fun h => absurd rfl h, fun _ => fault I0 J _ _ hCJ ⟨hY, _, rfl, q0 rfl J (zy_fr_tr hfr hJ)⟩⟩
    · obtain ⟨k4, k5, k6⟩ := k3 hl
      have hl' : ¬ (zt_ln T (min n 76) i room).1 = false := by rw [hl]; decide
      rw [if_neg hl'] at q0 q1
      generalize zt_ln T (min n 76) i room = q at *
      refine ⟨hY, fun _ => zy_112 (I := J) hY hk (by omega) hCJ ⟨hY, fun h => zy_114 (I := J) hY hk (by omega) hCJ (s := 59) (by omega) ?_, fun h => ⟨_, rfl, ?_⟩⟩, fun h => absurd h (by decide)⟩
      · rw [zt_lk_end hk] at h
        rw [if_neg h] at q0 q1
        split
        · rename_i h59
          have hs := (zt_s_lt h59 (by omega)).1
          rw [if_pos h59] at q0 q1
          refine ⟨hY, fun _ => ?_, fun z => absurd z (by decide)⟩
          have eal : (acc ++ [(q.2.1, q.2.2.1)]).length = acc.length + 1 := by simp
          have nx := ih (q.2.2.2 + 1) (if q.2.2.1 = 0 then room - 1 else room) (acc ++ [(q.2.1, q.2.2.1)]) I0 (zx_u2 J 4 3 (nI (q.2.2.2 + 1))) (by omega) (by omega) (by split <;> omega) (zy_fr_u2 (zy_fr_tr hfr hJ) (zy_in_at 0 4 2 6 3 rfl (by omega) (by omega))) (zt_C_at hCJ) (by rw [zy_u2_na (by omega)]; exact j4) (by rw [zy_u2_na (by omega), eal]; exact j3) (fun j z hj => by rw [zy_u2_na (by omega), zy_u2_na (by omega)]; exact jr j z hj) q0
            (fun hz J' hJ' z1 z2 => by
              rw [List.append_assoc] at z1 z2 ⊢
              exact q1 hz J' hJ' z1 z2)
          rw [eal, ← nI_1] at nx
          exact nx
        · rename_i h59
          rw [if_neg h59] at q0
          exact ⟨hY, fun z => absurd rfl z, fun _ => fault I0 J _ _ hCJ ⟨hY, _, rfl, q0 rfl J (zy_fr_tr hfr hJ)⟩⟩
      · rw [zt_lk_end hk] at h
        rw [if_pos h] at q1
        have := q1 rfl J (zy_fr_tr hfr hJ) (by rw [List.length_append]; exact j3) jr
        rw [List.length_append] at this
        show Q (J 14 3) (J, L, Y)
        rw [j3]; exact this
theorem zy_c16 (hY : zx_lay Y) (hk : zt_ok T n 76) (h41 : I 4 1 = nI n) (hT : ∀ j, j < n → I 5 j = nI (T j)) {room : Nat} (hr : room ≤ 10)
    (q0 : n ≠ 0 → (zt_all T (min n 76) n 76 0 room).1 = false → ∀ J, zy_fr zw_ct I J → Q ((-1) - nI (zt_all T (min n 76) n 76 0 room).2.1) (J, L, Y))
    (q1 : n ≠ 0 → (zt_all T (min n 76) n 76 0 room).1 = true → ∀ J, zy_fr zw_ct I J → J 14 3 = nI (zt_all T (min n 76) n 76 0 room).2.2.length → zt_rows J (zt_all T (min n 76) n 76 0 room).2.2 → Q (nI (zt_all T (min n 76) n 76 0 room).2.2.length) (J, L, Y))
    (q2 : n = 0 → ∀ J, zy_fr zw_ct I J → Q 0 (J, L, Y)) : zx_Ci l E (d + 3) 16 [.ref 14, .int (nI room)] (I, L, Y) Q := by
  have fr0 : zy_fr zw_ct I (zx_u2 (zx_u2 (zx_u2 (zx_u2 I 4 2 76) 4 3 0) 14 3 0) 14 4 (nI room)) := by
    refine zy_fr_u2 (zy_fr_u2 (zy_fr_u2 (zy_fr_u2 (zy_fr_rf _ _) ?_) ?_) ?_) ?_
    · exact zy_in_at 0 4 2 6 2 rfl (by omega) (by omega)
    · exact zy_in_at 0 4 2 6 3 rfl (by omega) (by omega)
    · exact zy_in_at 1 14 3 5 3 rfl (by omega) (by omega)
    · exact zy_in_at 1 14 3 5 4 rfl (by omega) (by omega)
  have hC : zt_C (zx_u2 (zx_u2 (zx_u2 (zx_u2 I 4 2 76) 4 3 0) 14 3 0) 14 4 (nI room)) T n 76 0 := by
    refine ⟨⟨?_, ?_, ?_⟩, fun j hj => ?_⟩
    · rw [zy_u2_na (by omega), zy_u2_na (by omega), zy_u2_nk (by omega), zy_u2_nk (by omega)]; exact h41
    · rw [zy_u2_na (by omega), zy_u2_na (by omega), zy_u2_nk (by omega), zy_u2_self]; rfl
    · rw [zy_u2_na (by omega), zy_u2_na (by omega), zy_u2_self]; rfl
    · rw [zy_u2_na (by omega), zy_u2_na (by omega), zy_u2_na (by omega), zy_u2_na (by omega)]; exact hT j hj
  refine sg_16_0 hY _ (sg_111_0 hY _ ⟨rfl, hY, zy_112 hY hk (by omega) hC ⟨hY, fun h => ?_, fun h => ⟨_, rfl, ?_⟩⟩⟩)
  · rw [zt_lk_end hk] at h
    have h0 : n ≠ 0 := by omega
    exact zy_c16_34 hY hk 76 0 room [] I (zx_u2 (zx_u2 (zx_u2 (zx_u2 I 4 2 76) 4 3 0) 14 3 0) 14 4 (nI room)) rfl (Nat.zero_le _) hr fr0 hC (by rw [zy_u2_self]) (by rw [zy_u2_nk (by omega), zy_u2_self]; rfl) (fun j q hj => by simp at hj) (q0 h0) (q1 h0)
  · rw [zt_lk_end hk] at h
    exact q2 (by omega) _ fr0
end YLn
