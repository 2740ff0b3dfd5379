/-! ===== sign, end ===== -/
section YT
variable {l : Launch} {E : zx_E} {d : Nat} {I : Nat → Nat → Int32} {L : Nat → Nat → Int64} {Y : zx_Y} {Qo : Option Value → zx_M → Prop} {Q : Int32 → zx_M → Prop} {Qv : zx_M → Prop}
/-- four signs written at n of row a -/
def zy_four (I : Nat → Nat → Int32) (a n : Nat) (v : Int32) : Nat → Nat → Nat → Int32
  | 0 => I
  | i + 1 => zx_u2 (zy_four I a n v i) a (n + i) (zy_byte v i)
theorem zy_four_at {a n : Nat} {v : Int32} : ∀ (m x y : Nat), zy_four I a n v m x y = if x = a ∧ n ≤ y ∧ y < n + m then zy_byte v (y - n) else I x y
  | 0, x, y => by rw [zy_four, if_neg (by omega)]
  | m + 1, x, y => by
    rw [zy_four]
    by_cases h : x = a ∧ y = n + m
    · obtain ⟨rfl, rfl⟩ := h
      rw [zy_u2_self, if_pos (by omega), Nat.add_sub_cancel_left]
    · rw [zy_u2_ne h, zy_four_at m]
      by_cases h2 : x = a ∧ n ≤ y ∧ y < n + m
      · rw [if_pos h2, if_pos (by omega)]
      · rw [if_neg h2, if_neg (by omega)]
theorem zy_109 (hY : zx_lay Y) {n : Nat} (hn : n ≤ 80) (hI : I 4 1 = nI n) {x : Int32} (hq : if n + 4 ≤ 80 then Q 1 (zx_u2 (zy_four I 5 n x 4) 4 1 (nI (n + 4)), L, Y) else Q 0 (I, L, Y)) : zx_Ci l E d 109 [.ref 4, .int x] (I, L, Y) Q := by
  have e4 : I 4 1 + 4 = nI (n + 4) := by rw [hI]; exact nI_add n 4
  refine sg_109_0 hY _ ⟨fun h1 => ?_, fun h1 => ?_⟩
  · have h2 : n + 4 ≤ 80 := by
      rw [e4] at h1
      exact (nI_leI (b := 80) (by omega) (by omega)).mp h1
    rw [if_pos h2] at hq
    refine zy_down (n := 4) (P := fun i => zx_To l E d 109 15 [some (.ref 4), some (.int x), some (.int (nI i))] [] (zy_four I 5 n x i, L, Y) _) ?_ (fun i hi ih => ?_)
    · refine sg_109_15 hY _ _ ⟨fun _ => ⟨_, rfl, ?_⟩, fun h1 => absurd ((zy_4 (by omega)).mpr (Nat.le_refl _)) h1⟩
      have e : zy_four I 5 n x 4 4 1 = I 4 1 := by rw [zy_four_at, if_neg (by omega)]
      rw [e, e4]
      exact hq
    · have e : zy_four I 5 n x i 4 1 = nI n := by rw [zy_four_at, if_neg (by omega)]; exact hI
      refine sg_109_15 hY _ _ ⟨fun h1 => absurd ((zy_4 (by omega)).mp h1) (by omega), fun _ => ?_⟩
      rw [e, nI_add, nI_1, zy_byte_u x i hi, nI_clamp (by omega)]
      exact ⟨vp_in_nI (by omega) (by omega), ih⟩
  · have h2 : ¬ n + 4 ≤ 80 := by
      rw [e4] at h1
      exact fun q => h1 ((nI_leI (b := 80) (by omega) (by omega)).mpr q)
    rw [if_neg h2] at hq
    exact ⟨_, rfl, hq⟩
theorem zy_176 (hY : zx_lay Y) {n : Nat} (hn : n ≤ 80) (hI : I 132 14 = nI n) {x : Int32} (hq : if n + 4 ≤ 80 then Q (nI (n + 4)) (zx_u2 (zy_four (zx_u2 I 132 0 0) 140 n x 4) 132 14 (nI (n + 4)), L, Y) else Q (-1) (zx_u2 I 132 0 0, L, Y)) : zx_Ci l E d 176 [.ref 132, .int x] (I, L, Y) Q := by
  refine sg_176_0 hY _ ⟨fun h1 => ?_, fun h1 => ?_⟩
  · have h2 : n ≤ 76 := by rw [hI] at h1; exact (nI_leI (b := 76) (by omega) (by omega)).mp h1
    rw [if_pos (by omega)] at hq
    refine zy_down (n := 4) (P := fun i => zx_To l E d 176 18 [some (.ref 132), some (.int x), some (.int (nI i))] [] (zy_four (zx_u2 I 132 0 0) 140 n x i, L, Y) _) ?_ (fun i hi ih => ?_)
    · have e : zy_four (zx_u2 I 132 0 0) 140 n x 4 132 14 = nI n := by rw [zy_four_at, if_neg (by omega)]; exact hI
      refine sg_176_18 hY _ _ ⟨fun _ => ⟨_, rfl, ?_⟩, fun h1 => absurd ((zy_4 (by omega)).mpr (Nat.le_refl _)) h1⟩
      rw [e]
      have e4 : nI n + 4 = nI (n + 4) := nI_add n 4
      rw [e4]
      exact hq
    · have e : zy_four (zx_u2 I 132 0 0) 140 n x i 132 14 = nI n := by rw [zy_four_at, if_neg (by omega)]; exact hI
      refine sg_176_18 hY _ _ ⟨fun h1 => absurd ((zy_4 (by omega)).mp h1) (by omega), fun _ => ?_⟩
      rw [e, nI_add, nI_1, nI_clamp (by omega)]
      exact ⟨vp_in_nI (by omega) (by omega), ih⟩
  · have h2 : ¬ n ≤ 76 := by rw [hI] at h1; exact fun q => h1 ((nI_leI (b := 76) (by omega) (by omega)).mpr q)
    rw [if_neg (by omega)] at hq
    exact ⟨_, rfl, hq⟩
/-- what sign and end may write -/
def zw_T : List (Nat × Nat × Nat) := [(4, 1, 2), (5, 0, 80), (140, 0, 80), (132, 14, 15), (132, 0, 1)]
theorem zj_sign (hY : zx_lay Y) {n : Nat} (hT : zc_T I n) {x : Int32} (hq : ∀ (v : Int32) (I' : Nat → Nat → Int32) (n' : Nat), zc_T I' n' → zy_fr zw_T I I' → Q v (I', L, Y)) :
    zx_Ci l E (d + 1) 118 [.ref 3, .int x] (I, L, Y) (fun v M1 => zx_lay M1.2.2 ∧ zx_Ci l E (d + 1) 176 [.ref 132, .int x] M1 (fun w M2 => w = v ∧ Q v M2)) := by
  obtain ⟨hn, h1, h2, h3⟩ := hT
  refine sg_118_0 hY _ (zy_109 hY hn h1 ?_)
  split
  · rename_i h4
    refine ⟨hY, fun h5 => absurd h5 (by decide), fun _ => ⟨_, rfl, hY, ?_⟩⟩
    have e2 : zx_u2 (zy_four I 5 n x 4) 4 1 (nI (n + 4)) 132 14 = nI n := by rw [zy_u2_ne (by omega), zy_four_at, if_neg (by omega)]; exact h2
    refine zy_176 hY hn e2 ?_
    rw [if_pos h4]
    refine ⟨rfl, hq _ _ (n + 4) ⟨h4, ?_, ?_, fun j hj => ?_⟩ ?_⟩
    · rw [zy_u2_ne (by omega), zy_four_at, if_neg (by omega), zy_u2_ne (by omega), zy_u2_self]
    · rw [zy_u2_self]
    · rw [zy_u2_ne (by omega), zy_four_at, if_neg (by omega), zy_u2_ne (by omega), zy_u2_ne (by omega), zy_four_at, zy_u2_ne (by omega), zy_four_at]
      by_cases hj2 : n ≤ j
      · rw [if_pos ⟨rfl, hj2, hj⟩, if_pos ⟨rfl, hj2, hj⟩]
        exact ⟨rfl, zy_byte_lt _ _⟩
      · rw [if_neg (by omega), if_neg (by omega), zy_u2_ne (by omega), zy_u2_ne (by omega), zy_four_at, if_neg (by omega)]
        exact h3 j (by omega)
    · refine zy_fr_u2 (fun a k hak => ?_) (zy_in_at 3 132 14 15 14 rfl (by omega) (by omega))
      have n0 : ¬ (a = 132 ∧ k = 0) := fun q => hak (by rw [q.1, q.2]; exact zy_in_at 4 132 0 1 0 rfl (by omega) (by omega))
      have n1 : ¬ (a = 4 ∧ k = 1) := fun q => hak (by rw [q.1, q.2]; exact zy_in_at 0 4 1 2 1 rfl (by omega) (by omega))
      have n2 : ¬ (a = 140 ∧ n ≤ k ∧ k < n + 4) := fun q => hak (by rw [q.1]; exact zy_in_at 2 140 0 80 k rfl (by omega) (by omega))
      have n3 : ¬ (a = 5 ∧ n ≤ k ∧ k < n + 4) := fun q => hak (by rw [q.1]; exact zy_in_at 1 5 0 80 k rfl (by omega) (by omega))
      rw [zy_four_at, if_neg n2, zy_u2_ne n0, zy_u2_ne n1, zy_four_at, if_neg n3]
  · rename_i h4
    refine ⟨hY, fun _ => ⟨_, rfl, hY, ?_⟩, fun h5 => absurd rfl h5⟩
    refine zy_176 hY hn h2 ?_
    rw [if_neg h4]
    have hfr : zy_fr zw_T I (zx_u2 I 132 0 0) := zy_fr_u2 (zy_fr_rf _ _) (zy_in_at 4 132 0 1 0 rfl (by omega) (by omega))
    exact ⟨rfl, hq _ _ n ⟨hn, h1, h2, h3⟩ hfr⟩
theorem zy_110 (hY : zx_lay Y) {n : Nat} (hn : n ≤ 80) (hI : I 4 1 = nI n) {x : Int32} (hq : if zy_one (n + 1) x then Q 1 (zx_u2 I 4 1 x, L, Y) else Q 0 (I, L, Y)) : zx_Ci l E d 110 [.ref 4, .int x] (I, L, Y) Q := by
  refine sg_110_0 hY _ ⟨fun h1 => ⟨_, rfl, ?_⟩, fun h1 => ⟨fun h2 => ⟨_, rfl, ?_⟩, fun h2 => ⟨_, rfl, ?_⟩⟩⟩
  · have e : zy_one (n + 1) x = false := decide_eq_false (fun q => by rw [Int32.lt_iff_toInt_lt] at h1; have := zy_i0; omega)
    rw [e] at hq; exact hq
  · rw [hI, Int32.le_iff_toInt_le, nI_toInt (by omega)] at h2
    have e : zy_one (n + 1) x = true := decide_eq_true ⟨by rw [Int32.lt_iff_toInt_lt] at h1; have := zy_i0; omega, by omega⟩
    rw [e] at hq; exact hq
  · rw [hI, Int32.le_iff_toInt_le, nI_toInt (by omega)] at h2
    have e : zy_one (n + 1) x = false := decide_eq_false (fun q => by omega)
    rw [e] at hq; exact hq
theorem zy_177 (hY : zx_lay Y) {n : Nat} (hn : n ≤ 80) (hI : I 132 14 = nI n) {x : Int32} (hq : if zy_one (n + 1) x then Q 1 (zx_u2 (zx_u2 I 132 0 0) 132 14 x, L, Y) else Q 0 (zx_u2 I 132 0 0, L, Y)) : zx_Ci l E (d + 1) 177 [.ref 132, .int x] (I, L, Y) Q := by
  refine sg_177_0 hY _ (zy_167i hY (b := zy_one (n + 1) x) ?_ ⟨hY, fun h1 => ?_, fun h1 => ?_⟩)
  · unfold zy_one
    rw [decide_eq_decide, hI, Int32.toInt_toInt64, nI_toInt (by omega)]
    have : (0 : Int64).toInt = 0 := by decide
    omega
  · have e : zy_one (n + 1) x = true := by
      cases h : zy_one (n + 1) x
      · rw [h] at h1; exact absurd rfl h1
      · rfl
    rw [e] at hq
    exact ⟨_, rfl, hq⟩
  · have e : zy_one (n + 1) x = false := by
      cases h : zy_one (n + 1) x
      · rfl
      · rw [h] at h1; exact absurd h1 (by decide)
    rw [e] at hq
    exact ⟨_, rfl, hq⟩
theorem zj_end (hY : zx_lay Y) {n : Nat} (hT : zc_T I n) {x : Int32} (hq : ∀ (v : Int32) (I' : Nat → Nat → Int32) (n' : Nat), zc_T I' n' → zy_fr zw_T I I' → Q v (I', L, Y)) :
    zx_Ci l E (d + 1) 119 [.ref 3, .int x] (I, L, Y) (fun v M1 => zx_lay M1.2.2 ∧ zx_Ci l E (d + 1) 177 [.ref 132, .int x] M1 (fun w M2 => w = v ∧ Q v M2)) := by
  obtain ⟨hn, h1, h2, h3⟩ := hT
  refine sg_119_0 hY _ (zy_110 hY hn h1 ?_)
  cases hz : zy_one (n + 1) x
  · refine ⟨hY, Or.inl rfl, _, rfl, hY, zy_177 hY hn h2 ?_⟩
    rw [hz]
    have hfr : zy_fr zw_T I (zx_u2 I 132 0 0) := zy_fr_u2 (zy_fr_rf _ _) (zy_in_at 4 132 0 1 0 rfl (by omega) (by omega))
    exact ⟨rfl, hq _ _ n ⟨hn, h1, h2, h3⟩ hfr⟩
  · obtain ⟨m, hm, rfl⟩ := zy_one_at hz (by omega)
    refine ⟨hY, Or.inr rfl, _, rfl, hY, zy_177 (I := zx_u2 I 4 1 (nI m)) hY hn h2 ?_⟩
    rw [hz]
    refine ⟨rfl, hq _ _ m ⟨by omega, rfl, rfl, fun j hj => h3 j (by omega)⟩ ?_⟩
    refine zy_fr_u2 (zy_fr_u2 (zy_fr_u2 (zy_fr_rf _ _) ?_) ?_) ?_
    · exact zy_in_at 0 4 1 2 1 rfl (by omega) (by omega)
    · exact zy_in_at 4 132 0 1 0 rfl (by omega) (by omega)
    · exact zy_in_at 3 132 14 15 14 rfl (by omega) (by omega)
end YT
