/-! ===== sheet ===== -/
def zy_ak (k x : Int32) : Int32 := if k = 0 then x.toInt8.toInt32 else if k = 1 then x.toInt16.toInt32 else x
def zy_se (k n f s : Int32) (i : Nat) : Int32 := if decide (k < 3) && (decide (nI i < n) && zy_is (zy_ak k (f + nI i * s))) then zy_ak k (f + nI i * s) else 0
def zy_ro (I : Nat → Nat → Int32) (b : Nat) (g : Nat → Int32) (i : Nat) : Nat → Nat → Int32 := fun a k => if a = b ∧ k < i then g k else I a k
theorem zy_ro_s {I : Nat → Nat → Int32} {b : Nat} {g : Nat → Int32} {i : Nat} : zx_u2 (zy_ro I b g i) b i (g i) = zy_ro I b g (i + 1) := by
  funext a k
  simp only [zx_u2, zy_ro]
  repeat' split
  all_goals first | rfl | (exfalso; omega) | skip
  rename_i h _; rw [h.2]
theorem zy_ro_0 {I : Nat → Nat → Int32} {b : Nat} {g : Nat → Int32} : zy_ro I b g 0 = I := by funext a k; unfold zy_ro; rw [if_neg (by omega)]
theorem zy_ro_ne {I : Nat → Nat → Int32} {b : Nat} {g : Nat → Int32} {i a k : Nat} (h : a ≠ b) : zy_ro I b g i a k = I a k := by unfold zy_ro; rw [if_neg (fun q => h q.1)]
theorem zy_ro_in {I : Nat → Nat → Int32} {b : Nat} {g : Nat → Int32} {i k : Nat} (h : k < i) : zy_ro I b g i b k = g k := by unfold zy_ro; rw [if_pos ⟨rfl, h⟩]
theorem zy_ro_out {I : Nat → Nat → Int32} {b : Nat} {g : Nat → Int32} {i k : Nat} (h : i ≤ k) : zy_ro I b g i b k = I b k := by unfold zy_ro; rw [if_neg (by omega)]
theorem zy_is_0 : zy_is 0 = true := zy_is_mk (c := 0) (by omega) zy_dig_0
theorem zy_se_is {k n f s : Int32} {i : Nat} : zy_is (zy_se k n f s i) = true := by
  unfold zy_se
  split
  · rename_i h
    simp only [Bool.and_eq_true] at h
    exact h.2.2
  · exact zy_is_0
section YSh
variable {l : Launch} {E : zx_E} {d : Nat} {I : Nat → Nat → Int32} {L : Nat → Nat → Int64} {Y : zx_Y} {Qo : Option Value → zx_M → Prop} {Q : Int32 → zx_M → Prop} {Qv : zx_M → Prop}
theorem zy_158 (hY : zx_lay Y) {k x : Int32} (hq : Q (zy_ak k x) (I, L, Y)) : zx_Ci l E d 158 [.int k, .int x] (I, L, Y) Q := by
  unfold zy_ak at hq
  refine sg_158_0 hY _ _ ⟨fun h => ⟨fun h2 => ⟨_, rfl, ?_⟩, fun h2 => ⟨_, rfl, ?_⟩⟩, fun h => ⟨_, rfl, ?_⟩⟩
  · rw [if_neg h, if_neg h2] at hq; exact hq
  · rw [if_neg h, if_pos h2] at hq; exact hq
  · rw [if_pos h] at hq; exact hq
theorem zy_3i : (3 : Int32).toInt = 3 := by decide
theorem zy_10i : (10 : Int32).toInt = 10 := by decide
/-- what sheet asks: 1 no, 2 too few, 0 yes -/
def zy_shc (k n : Int32) : Nat := if k.toInt < 0 ∨ 3 < k.toInt ∨ 10 < n.toInt then 1 else if k.toInt < 3 ∧ n.toInt < 0 then 2 else 0
theorem zy_121 (hY : zx_lay Y) {P : Nat} (hP : P ≤ 10) (h7 : I 8 7 = nI P) {k n f s : Int32}
    (hq : if zy_shc k n = 1 then Q (-1) (I, L, Y) else if zy_shc k n = 2 then Q (-2) (I, L, Y) else Q (if k = 3 then -3 else nI (zy_cnt (fun p => decide (zy_ro I 9 (zy_se k n f s) P 9 p ≠ 0)) 10)) (zx_u2 (zy_ro I 9 (zy_se k n f s) P) 8 5 0, L, Y)) : zx_Ci l E (d + 2) 121 [.ref 3, .int k, .int n, .int f, .int s] (I, L, Y) Q := by
  have loop : zy_shc k n = 0 → zx_To l E (d + 2) 121 32 [some (.ref 3), some (.int k), some (.int n), some (.int f), some (.int s), some (.int 0), none] [] (I, L, Y) (fun r M' => ∃ v, r = some (.int v) ∧ Q v M') := by
    intro h0
    rw [h0] at hq
    have hq : Q (if k = 3 then -3 else nI (zy_cnt (fun p => decide (zy_ro I 9 (zy_se k n f s) P 9 p ≠ 0)) 10)) (zx_u2 (zy_ro I 9 (zy_se k n f s) P) 8 5 0, L, Y) := hq
    have goal : zx_To l E (d + 2) 121 32 [some (.ref 3), some (.int k), some (.int n), some (.int f), some (.int s), some (.int (nI 0)), none] [] (zy_ro I 9 (zy_se k n f s) 0, L, Y) (fun r M' => ∃ v, r = some (.int v) ∧ Q v M') := by
      refine zy_down (n := P) (P := fun i => zx_To l E (d + 2) 121 32 [some (.ref 3), some (.int k), some (.int n), some (.int f), some (.int s), some (.int (nI i)), none] [] (zy_ro I 9 (zy_se k n f s) i, L, Y) (fun r M' => ∃ v, r = some (.int v) ∧ Q v M')) ?_ (fun i hi ih => ?_)
      · refine sg_121_32 hY _ _ _ _ _ ⟨fun _ => zy_c11 hY ⟨hY, fun h => zy_c4 hY ⟨hY, ?_⟩, fun h => ⟨_, rfl, ?_⟩⟩, fun h => absurd ?_ h⟩
        · rw [zy_or_nI _ 10 (by omega)]
          refine zy_266 hY (zy_orN10 _ (Nat.le_refl _)) ⟨hY, _, rfl, ?_⟩
          rw [if_neg h] at hq
          rw [zy_pop_orN]
          have e : zy_cnt (fun p => decide (zx_u2 (zy_ro I 9 (zy_se k n f s) P) 8 5 0 9 p ≠ 0)) 10 = zy_cnt (fun p => decide (zy_ro I 9 (zy_se k n f s) P 9 p ≠ 0)) 10 := zy_cnt_cong (fun p hp => by rw [zy_u2_na (by omega)])
          show Q (nI (zy_cnt (fun p => decide (zx_u2 (zy_ro I 9 (zy_se k n f s) P) 8 5 0 9 p ≠ 0)) 10)) _
          rw [e]; exact hq
        · rw [if_pos h] at hq; exact hq
        · rw [zy_ro_ne (by omega), h7]; exact (nI_leI (by omega) (by omega)).mpr (Nat.le_refl _)
      · have hv := vp_in_nI (n := i) (N := 10) (by omega) (by omega)
        have st : ∀ v : Int32, v = zy_se k n f s i → zx_To l E (d + 2) 121 32 [some (.ref 3), some (.int k), some (.int n), some (.int f), some (.int s), some (.int (nI i + 1)), none] [] (zx_u2 (zy_ro I 9 (zy_se k n f s) i) 9 (nI i).toNatClampNeg v, L, Y) (fun r M' => ∃ v, r = some (.int v) ∧ Q v M') := fun v hv => by
          rw [nI_clamp (by omega), hv, zy_ro_s, nI_1]; exact ih
        refine sg_121_32 hY _ _ _ _ _ ⟨fun h => ?_, fun _ => ⟨fun h => zy_160 hY ⟨hY, fun _ => ⟨hv, st _ ?_⟩, fun _ => ⟨hv, st _ ?_⟩⟩, fun h => ⟨fun h2 => zy_160 hY ⟨hY, fun _ => ⟨hv, st _ ?_⟩, fun _ => ⟨hv, st _ ?_⟩⟩, fun h2 => zy_158 hY ⟨hY, zy_160 hY ⟨hY, fun h3 => ⟨hv, st _ ?_⟩, fun h3 => ⟨hv, st _ ?_⟩⟩⟩⟩⟩⟩
        · rw [zy_ro_ne (by omega), h7, nI_leI (by omega) (by omega)] at h; omega
        · unfold zy_se; rw [decide_eq_false (Int32.not_lt.mpr h), Bool.false_and]; rfl
        · unfold zy_se; rw [decide_eq_false (Int32.not_lt.mpr h), Bool.false_and]; rfl
        · unfold zy_se; rw [decide_eq_false (Int32.not_lt.mpr h2), Bool.false_and, Bool.and_false]; rfl
        · unfold zy_se; rw [decide_eq_false (Int32.not_lt.mpr h2), Bool.false_and, Bool.and_false]; rfl
        · rw [zy_b0] at h3; unfold zy_se; rw [h3, Bool.and_false, Bool.and_false]; rfl
        · rw [zy_b1] at h3; unfold zy_se; rw [h3, decide_eq_true (Int32.not_le.mp h), decide_eq_true (Int32.not_le.mp h2)]; rfl
    rw [zy_ro_0] at goal
    exact goal
  have c1 : (k.toInt < 0 ∨ 3 < k.toInt ∨ 10 < n.toInt) → ∃ v, some (Value.int (-1)) = some (.int v) ∧ Q v (I, L, Y) := fun h => by
    have : zy_shc k n = 1 := by unfold zy_shc; rw [if_pos h]
    rw [this] at hq; exact ⟨_, rfl, hq⟩
  refine sg_121_0 hY _ _ _ _ ⟨fun h => c1 ?_, fun h => ⟨fun h2 => c1 ?_, fun h2 => ⟨fun h3 => ⟨fun h4 => loop ?_, fun h4 => ⟨fun h5 => loop ?_, fun h5 => ⟨_, rfl, ?_⟩⟩⟩, fun h3 => c1 ?_⟩⟩⟩
  · rw [Int32.lt_iff_toInt_lt, zy_i0] at h; omega
  · rw [Int32.lt_iff_toInt_lt, zy_3i] at h2; omega
  · rw [Int32.lt_iff_toInt_lt, zy_i0] at h; rw [Int32.lt_iff_toInt_lt, zy_3i] at h2; rw [Int32.le_iff_toInt_le, zy_10i] at h3; rw [Int32.le_iff_toInt_le, zy_3i] at h4
    unfold zy_shc; rw [if_neg (by omega), if_neg (by omega)]
  · rw [Int32.lt_iff_toInt_lt, zy_i0] at h; rw [Int32.lt_iff_toInt_lt, zy_3i] at h2; rw [Int32.le_iff_toInt_le, zy_10i] at h3; rw [Int32.le_iff_toInt_le, zy_i0] at h5
    unfold zy_shc; rw [if_neg (by omega), if_neg (by omega)]
  · rw [Int32.lt_iff_toInt_lt, zy_i0] at h; rw [Int32.lt_iff_toInt_lt, zy_3i] at h2; rw [Int32.le_iff_toInt_le, zy_10i] at h3; rw [Int32.le_iff_toInt_le, zy_3i] at h4; rw [Int32.le_iff_toInt_le, zy_i0] at h5
    have : zy_shc k n = 2 := by unfold zy_shc; rw [if_neg (by omega), if_pos (by omega)]
    rw [this] at hq; exact hq
  · rw [Int32.le_iff_toInt_le, zy_10i] at h3; omega
theorem zy_169b (hY : zx_lay Y) {b : Bool} (hq : Q (nI (if b then 1 else 0)) (I, L, Y)) : zx_Ci l E d 169 [.int (if b then 1 else 0)] (I, L, Y) Q := by
  refine zy_169 hY ?_
  cases b
  · exact hq
  · exact hq
theorem zy_186 (hY : zx_lay Y) {P : Nat} (hP : P ≤ 10) (h3 : I 132 3 = nI P) {k n f s : Int32}
    (hq : if zy_shc k n = 1 then Q (-1) (zx_u2 I 132 0 0, L, Y) else if zy_shc k n = 2 then Q (-2) (zx_u2 I 132 0 0, L, Y) else Q (if k = 3 then -3 else nI (zy_cnt (fun p => decide (zy_se k n f s p ≠ 0)) P)) (zx_u2 (zy_ro (zx_u2 I 132 0 0) 134 (zy_se k n f s) P) 132 10 0, L, Y)) : zx_Ci l E (d + 2) 186 [.ref 132, .int k, .int n, .int f, .int s] (I, L, Y) Q := by
  have loop : zy_shc k n = 0 → zx_To l E (d + 2) 186 37 [some (.ref 132), some (.int k), some (.int n), some (.int f), some (.int s), none, none, none, none] [] (zx_u2 I 132 0 0, L, Y) (fun r M' => ∃ v, r = some (.int v) ∧ Q v M') := by
    intro h0
    rw [h0] at hq
    have hq : Q (if k = 3 then -3 else nI (zy_cnt (fun p => decide (zy_se k n f s p ≠ 0)) P)) (zx_u2 (zy_ro (zx_u2 I 132 0 0) 134 (zy_se k n f s) P) 132 10 0, L, Y) := hq
    have k3 : k < 3 ↔ k ≠ 3 := by
      unfold zy_shc at h0
      split at h0
      · cases h0
      · rename_i z
        rw [Int32.lt_iff_toInt_lt, zy_3i, ne_eq, ← Int32.toInt_inj, zy_3i]; omega
    refine sg_186_37 hY _ _ _ _ ?_
    have f0 : f = f + nI 0 * s := by rw [show nI 0 = 0 from rfl, Int32.zero_mul, Int32.add_zero]
    have goal : zx_To l E (d + 2) 186 46 [some (.ref 132), some (.int k), some (.int n), none, some (.int s), some (.int (nI (zy_cnt (fun p => decide (zy_se k n f s p ≠ 0)) 0))), some (.int (f + nI 0 * s)), some (.int (nI 0)), none] [] (zy_ro (zx_u2 I 132 0 0) 134 (zy_se k n f s) 0, L, Y) (fun r M' => ∃ v, r = some (.int v) ∧ Q v M') := by
      refine zy_down (n := P) (P := fun i => zx_To l E (d + 2) 186 46 [some (.ref 132), some (.int k), some (.int n), none, some (.int s), some (.int (nI (zy_cnt (fun p => decide (zy_se k n f s p ≠ 0)) i))), some (.int (f + nI i * s)), some (.int (nI i)), none] [] (zy_ro (zx_u2 I 132 0 0) 134 (zy_se k n f s) i, L, Y) (fun r M' => ∃ v, r = some (.int v) ∧ Q v M')) ?_ (fun i hi ih => ?_)
      · refine sg_186_46 hY _ _ _ _ _ _ ⟨fun _ => ⟨fun h => sg_186_165 hY _ ⟨_, rfl, ?_⟩, fun h => sg_186_165 hY _ ⟨_, rfl, ?_⟩⟩, fun h => absurd ?_ h⟩
        · rw [if_neg h] at hq; exact hq
        · rw [if_pos h] at hq; exact hq
        · rw [zy_ro_ne (by omega), zy_u2_nk (by omega), h3]; exact (nI_leI (by omega) (by omega)).mpr (Nat.le_refl _)
      · have hv := vp_in_nI (n := i) (N := 10) (by omega) (by omega)
        have st111 : ∀ v : Int32, v = zy_se k n f s i → zx_To l E (d + 2) 186 111 [some (.ref 132), some (.int k), some (.int n), none, some (.int s), some (.int (nI (zy_cnt (fun p => decide (zy_se k n f s p ≠ 0)) i))), some (.int (f + nI i * s)), some (.int (nI i)), none] [.int v, .int (nI i), .ref 134] (zy_ro (zx_u2 I 132 0 0) 134 (zy_se k n f s) i, L, Y) (fun r M' => ∃ v, r = some (.int v) ∧ Q v M') := fun v hv' => by
          subst hv'
          refine sg_186_111 hY _ _ _ _ _ _ _ _ ⟨hv, hv, ?_⟩
          rw [nI_clamp (by omega), zy_ro_s, zy_ro_in (Nat.lt_succ_self _)]
          have fin : ∀ b : Bool, b = decide (zy_se k n f s i ≠ 0) → zx_To l E (d + 2) 186 129 [some (.ref 132), some (.int k), some (.int n), none, some (.int s), none, some (.int (f + nI i * s)), some (.int (nI i)), none] [.int (if b then 1 else 0), .int (nI (zy_cnt (fun p => decide (zy_se k n f s p ≠ 0)) i))] (zy_ro (zx_u2 I 132 0 0) 134 (zy_se k n f s) (i + 1), L, Y) (fun r M' => ∃ v, r = some (.int v) ∧ Q v M') := fun b hb => by
            refine sg_186_129 hY _ _ _ _ _ _ _ (zy_169b hY ⟨hY, ?_⟩)
            rw [nI_add, nI_1, hb]
            have e1 : f + nI i * s + s = f + nI (i + 1) * s := by
              rw [← nI_1, Int32.add_mul, Int32.one_mul, Int32.add_assoc]
            rw [e1]
            have e2 : zy_cnt (fun p => decide (zy_se k n f s p ≠ 0)) (i + 1) = zy_cnt (fun p => decide (zy_se k n f s p ≠ 0)) i + (if decide (zy_se k n f s i ≠ 0) then 1 else 0) := rfl
            rw [e2] at ih
            exact ih
          obtain ⟨c, hc, hc1, -⟩ := zy_is_of (zy_se_is (k := k) (n := n) (f := f) (s := s) (i := i))
          refine ⟨fun h => fin false ?_, fun h => fin true ?_⟩
          · rw [hc, zy_le0 (by omega)] at h
            rw [hc, h]; rfl
          · rw [hc, zy_le0 (by omega)] at h
            rw [hc]; exact (decide_eq_true (p := nI c ≠ 0) (fun q => h ((zy_eq0 (by omega)).mp q))).symm
        have st78 : ∀ y : Int32, y = zy_ak k (f + nI i * s) → zx_To l E (d + 2) 186 78 [some (.ref 132), some (.int k), some (.int n), none, some (.int s), some (.int (nI (zy_cnt (fun p => decide (zy_se k n f s p ≠ 0)) i))), some (.int (f + nI i * s)), some (.int (nI i)), none] [.int y] (zy_ro (zx_u2 I 132 0 0) 134 (zy_se k n f s) i, L, Y) (fun r M' => ∃ v, r = some (.int v) ∧ Q v M') := fun y hy => by
          subst hy
          refine sg_186_78 hY _ _ _ _ _ _ _ ⟨fun h => sg_186_105 hY _ _ _ _ _ _ _ (st111 _ ?_), fun h => ⟨fun h2 => sg_186_105 hY _ _ _ _ _ _ _ (st111 _ ?_), fun h2 => zy_172 hY ⟨hY, fun h3 => st111 _ ?_, fun h3 => sg_186_105 hY _ _ _ _ _ _ _ (st111 _ ?_)⟩⟩⟩
          · unfold zy_se; rw [decide_eq_false (fun q => (k3.mp q) h), Bool.false_and]; rfl
          · unfold zy_se; rw [decide_eq_false (Int32.not_lt.mpr h2), Bool.false_and, Bool.and_false]; rfl
          · rw [zy_b1] at h3; unfold zy_se; rw [h3, decide_eq_true (k3.mpr h), decide_eq_true (Int32.not_le.mp h2)]; rfl
          · rw [zy_b0] at h3; unfold zy_se; rw [h3, Bool.and_false, Bool.and_false]; rfl
        refine sg_186_46 hY _ _ _ _ _ _ ⟨fun h => ?_, fun _ => ⟨fun h => ⟨fun h2 => st78 _ ?_, fun h2 => st78 _ ?_⟩, fun h => st78 _ ?_⟩⟩
        · rw [zy_ro_ne (by omega), zy_u2_nk (by omega), h3, nI_leI (by omega) (by omega)] at h; omega
        · unfold zy_ak; rw [if_neg h, if_neg h2]
        · unfold zy_ak; rw [if_neg h, if_pos h2]
        · unfold zy_ak; rw [if_pos h]
    rw [zy_ro_0, ← f0] at goal
    exact goal
  have t23 : (k.toInt < 0 ∨ 3 < k.toInt ∨ 10 < n.toInt) → zx_To l E (d + 2) 186 23 [none, none, none, none, none, none, none, none, none] [] (zx_u2 I 132 0 0, L, Y) (fun r M' => ∃ v, r = some (.int v) ∧ Q v M') := fun h => by
    have : zy_shc k n = 1 := by unfold zy_shc; rw [if_pos h]
    rw [this] at hq
    exact sg_186_23 hY ⟨_, rfl, hq⟩
  refine sg_186_0 hY _ _ _ _ (zy_167i hY (b := decide (0 ≤ k.toInt ∧ k.toInt ≤ 3)) rfl ⟨hY, fun h => t23 ?_, fun h => ⟨fun h2 => ⟨fun h4 => loop ?_, fun h4 => ⟨fun h5 => loop ?_, fun h5 => ⟨_, rfl, ?_⟩⟩⟩, fun h2 => t23 ?_⟩⟩)
  · rw [zy_b0, decide_eq_false_iff_not] at h; omega
  · rw [zy_b1, decide_eq_true_eq] at h; rw [Int32.le_iff_toInt_le, zy_10i] at h2; rw [← Int32.toInt_inj, zy_3i] at h4
    unfold zy_shc; rw [if_neg (by omega), if_neg (by omega)]
  · rw [zy_b1, decide_eq_true_eq] at h; rw [Int32.le_iff_toInt_le, zy_10i] at h2; rw [Int32.le_iff_toInt_le, zy_i0] at h5
    unfold zy_shc; rw [if_neg (by omega), if_neg (by omega)]
  · rw [zy_b1, decide_eq_true_eq] at h; rw [Int32.le_iff_toInt_le, zy_10i] at h2; rw [Int32.le_iff_toInt_le, zy_i0] at h5; rw [← Int32.toInt_inj, zy_3i] at h4
    have : zy_shc k n = 2 := by unfold zy_shc; rw [if_neg (by omega), if_pos (by omega)]
    rw [this] at hq; exact hq
  · rw [Int32.le_iff_toInt_le, zy_10i] at h2; omega
theorem zj_sheet (hY : zx_lay Y) {P S b r : Nat} {H : List (Nat × Nat)} (hC : zc_C I P S b r H) {k n f s : Int32}
    (hq : ∀ v I' H', zc_C I' P S b r H' → zy_fr zw_S I I' → Q v (I', L, Y)) :
    zx_Ci l E (d + 2) 121 [.ref 3, .int k, .int n, .int f, .int s] (I, L, Y) (fun v M1 => zx_lay M1.2.2 ∧ zx_Ci l E (d + 2) 186 [.ref 132, .int k, .int n, .int f, .int s] M1 (fun w M2 => w = v ∧ Q v M2)) := by
  have hC0 := hC
  obtain ⟨⟨hP, h7, h3⟩, his, hn, hz, ⟨hS, h8⟩, -⟩ := hC
  have keep : zc_C (zx_u2 I 132 0 0) P S b r H := zc_C_cong hC0 (zy_fr_on zy_thr_fr (by decide))
  have kfr : zy_fr zw_S I (zx_u2 I 132 0 0) := zy_fr_mono zy_thr_fr (by decide)
  refine zy_121 hY hP h7 ?_
  split
  · rename_i h
    refine ⟨hY, zy_186 hY hP h3 ?_⟩
    rw [if_pos h]; exact ⟨rfl, hq _ _ H keep kfr⟩
  · rename_i h
    split
    · rename_i h2
      refine ⟨hY, zy_186 hY hP h3 ?_⟩
      rw [if_neg h, if_pos h2]; exact ⟨rfl, hq _ _ H keep kfr⟩
    · rename_i h2
      refine ⟨hY, zy_186 hY hP (by rw [zy_u2_ne (by omega), zy_ro_ne (by omega)]; exact h3) ?_⟩
      rw [if_neg h, if_neg h2]
      have gis : ∀ i, zy_is (zy_se k n f s i) = true := fun i => zy_se_is
      generalize zy_se k n f s = g at *
      have e9 : ∀ p, p < 10 → zx_u2 (zy_ro (zx_u2 (zx_u2 (zy_ro I 9 g P) 8 5 0) 132 0 0) 134 g P) 132 10 0 9 p = if p < P then g p else 0 := fun p hp => by
        rw [zy_u2_ne (by omega), zy_ro_ne (by omega), zy_u2_ne (by omega), zy_u2_ne (by omega)]
        split
        · rw [zy_ro_in (by assumption)]
        · rw [zy_ro_out (by omega)]; exact (hz p (by omega) hp).1
      have oth : ∀ a k, a ≠ 9 → a ≠ 134 → ¬ (a = 8 ∧ k = 5) → ¬ (a = 132 ∧ (k = 0 ∨ k = 10)) → zx_u2 (zy_ro (zx_u2 (zx_u2 (zy_ro I 9 g P) 8 5 0) 132 0 0) 134 g P) 132 10 0 a k = I a k := fun a k a1 a2 a3 a4 => by
        rw [zy_u2_ne (by omega), zy_ro_ne (by omega), zy_u2_ne (by omega), zy_u2_ne (by omega), zy_ro_ne (by omega)]
      refine ⟨?_, hq _ _ [] (zc_new hC0 (fun p hp => ?_) (fun p hp => ⟨?_, ?_, ?_⟩) (fun p hp1 hp2 => ⟨?_, ?_⟩) ⟨hS, ?_⟩ ?_ ?_ (fun a k hk => ?_)) ?_⟩
      · have : zy_cnt (fun p => decide (zy_ro I 9 g P 9 p ≠ 0)) 10 = zy_cnt (fun p => decide (g p ≠ 0)) P := by
          rw [zy_cnt_ext hP (fun i h1 h2 => by rw [zy_ro_out h1, (hz i h1 h2).1]; rfl)]
          exact zy_cnt_cong (fun i hi => by rw [zy_ro_in hi])
        rw [this]
      · rw [e9 p hp]
        split
        · exact gis p
        · exact zy_is_0
      · rw [e9 p (by omega), if_pos hp, zy_u2_ne (by omega), zy_ro_in hp]
      · rw [oth 135 p (by omega) (by omega) (by omega) (by omega), oth 10 p (by omega) (by omega) (by omega) (by omega)]; exact (hn p hp).2.1
      · rw [oth 136 p (by omega) (by omega) (by omega) (by omega)]; exact (hn p hp).2.2
      · rw [e9 p hp2, if_neg (by omega)]
      · rw [oth 10 p (by omega) (by omega) (by omega) (by omega)]; exact (hz p hp1 hp2).2
      · rw [oth 8 8 (by omega) (by omega) (by omega) (by omega)]; exact h8
      · rw [zy_u2_ne (by omega), zy_ro_ne (by omega), zy_u2_ne (by omega), zy_u2_self]
      · rw [zy_u2_self]
      · have hin : (a = 8 ∧ 6 ≤ k ∧ k < 8) ∨ (a = 8 ∧ 9 ≤ k ∧ k < 10) ∨ (a = 132 ∧ 3 ≤ k ∧ k < 4) ∨ (a = 132 ∧ 8 ≤ k ∧ k < 9) := by
          obtain ⟨w, hw, e1, e2, e3⟩ := hk
          simp only [List.mem_cons, List.not_mem_nil, or_false] at hw
          rcases hw with rfl | rfl | rfl | rfl <;> simp at e1 e2 e3 <;> omega
        exact oth a k (by omega) (by omega) (by omega) (by omega)
      · intro a k hk
        have g : ∀ j a' lo hi, zw_S[j]? = some (a', lo, hi) → ¬ (a = a' ∧ lo ≤ k ∧ k < hi) := fun j a' lo hi h q => hk (by rw [q.1]; exact zy_in_at j a' lo hi k h q.2.1 q.2.2)
        have g0 := g 0 8 5 6 rfl
        have g1 := g 1 9 0 10 rfl
        have g2 := g 2 132 0 1 rfl
        have g3 := g 3 132 10 11 rfl
        have g4 := g 4 134 0 10 rfl
        rw [zy_u2_ne (by omega)]; unfold zy_ro; rw [if_neg (by omega), zy_u2_ne (by omega), zy_u2_ne (by omega), if_neg (by omega)]
end YSh
