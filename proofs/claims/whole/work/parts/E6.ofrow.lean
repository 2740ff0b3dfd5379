/-! ===== of and row: where both answer, where both refuse ===== -/
section ZIO
variable {l : Launch} {E : zx_E} {d : Nat} {I : Nat → Nat → Int32} {L : Nat → Nat → Int64} {Y : zx_Y} {P S b r : Nat} {H : List (Nat × Nat)} {x y v : Int32}
theorem zi_u (I : Nat → Nat → Int32) {a k : Nat} {w : Int32} (h : ¬ (a = 132 ∧ k = 0)) : zx_u2 I 132 0 w a k = I a k := if_neg h
theorem zi_one {p : Nat} (hP : P ≤ 10) (hp : p < P) : zy_one P (nI p) = true := decide_eq_true ⟨by rw [nI_toInt (by omega)]; omega, by rw [nI_toInt (by omega)]; omega⟩
theorem zi_of_c (hY : zx_lay Y) (hC : zc_C I P S b r H) {p q c : Nat} (hp : p < P) (hq : q ≤ 3) (hc : I 9 p = nI c) (hc7 : c < 5764801) (h0 : q = 0 → v = I 9 p) (h1 : q = 1 → v = nI (zy_len c)) (h2 : q = 2 → v = I 10 p) (h3 : q = 3 → v = nI (if S.testBit p then 1 else 0)) :
    zx_Ci l E (d + 1) 122 [.ref 3, .int (nI p), .int (nI q)] (I, L, Y) (fun w M' => w = v ∧ M' = (I, L, Y)) := by
  have hP10 := hC.1.1
  have hcl : (nI p).toNatClampNeg = p := nI_clamp (by omega)
  have hin : vp_in (nI p) 10 := nI_in (by omega) (by omega)
  have hS8 : I 8 8 = nI S := hC.2.2.2.2.1.2
  have hSl : S < 2 ^ 31 := Nat.lt_of_lt_of_le hC.2.2.2.2.1.1 (Nat.pow_le_pow_right (by decide) (by omega))
  refine sg_122_0 hY _ _ (zy_1 hY hC.1.1 hC.1.2.1 ?_)
  rw [zi_one hP10 hp]
  refine ⟨hY, fun h => absurd h (by decide), fun _ => ⟨fun h => absurd h (nI_pos (by omega)), fun _ => ⟨fun _ => ⟨fun hs => ?_, fun hs => ⟨hin, ?_⟩, fun hs => ⟨hin, ?_⟩, fun hs => ⟨hin, ?_⟩⟩, fun h => absurd (show nI q ≤ 3 from nI_le (b := 3) hq (by decide)) h⟩⟩⟩
  · rw [nI_toInt (by omega)] at hs
    refine ⟨_, rfl, ?_, rfl⟩
    rw [h3 (by omega)]
    show ((I 8 8) >>> (nI p &&& 31)) &&& (1 : Int32) = _
    rw [hS8]
    exact zy_test hSl (by omega)
  · rw [nI_toInt (by omega)] at hs
    refine ⟨_, rfl, ?_, rfl⟩
    rw [h0 (by omega)]
    show I 9 (nI p).toNatClampNeg = _
    rw [hcl]
  · rw [nI_toInt (by omega)] at hs
    show zx_Ci l E d 161 [.int (I 9 (nI p).toNatClampNeg)] (I, L, Y) _
    rw [hcl, hc]
    exact zy_161 hY hc7 ⟨hY, _, rfl, (h1 (by omega)).symm, rfl⟩
  · rw [nI_toInt (by omega)] at hs
    refine ⟨_, rfl, ?_, rfl⟩
    rw [h2 (by omega)]
    show I 10 (nI p).toNatClampNeg = _
    rw [hcl]
theorem zi_of_r (hY : zx_lay Y) (hC : zc_C I P S b r H) {p q c : Nat} (hp : p < P) (hq : q ≤ 3) (hc : I 9 p = nI c) (hc7 : c < 5764801) (h0 : q = 0 → v = I 9 p) (h1 : q = 1 → v = nI (zy_len c)) (h2 : q = 2 → v = I 10 p) (h3 : q = 3 → v = nI (if S.testBit p then 1 else 0)) :
    zx_Ci l E (d + 2) 187 [.ref 132, .int (nI p), .int (nI q)] (I, L, Y) (fun w M' => w = v ∧ M' = (zx_u2 I 132 0 0, L, Y)) := by
  have hP10 := hC.1.1
  have hcl : (nI p).toNatClampNeg = p := nI_clamp (by omega)
  have hin : vp_in (nI p) 10 := nI_in (by omega) (by omega)
  obtain ⟨r1, r2, r3⟩ := hC.2.2.1 p hp
  refine sg_187_0 hY _ _ (zy_175 (I := zx_u2 I 132 0 0) hY hC.1.1 ((zi_u I (by decide)).trans hC.1.2.2) ?_)
  rw [zi_one hP10 hp]
  have e0 : (0 : Int64).toInt = 0 := by decide
  have e3 : (3 : Int64).toInt = 3 := by decide
  refine ⟨hY, fun h => absurd h (by decide), fun _ => zy_167i (b := true) hY (by rw [e0, e3, nI_toInt (by omega)]; exact (decide_eq_true (by omega)).symm) ⟨hY, fun _ => ⟨fun n0 => ⟨fun n1 => ⟨fun n2 => ⟨hin, ?_⟩, fun n2 => ⟨hin, ?_⟩⟩, fun n1 => ⟨hin, ?_⟩⟩, fun n0 => ⟨hin, ?_⟩⟩, fun h => absurd h (by decide)⟩⟩
  · have k0 : q ≠ 0 := fun e => n0 (by rw [e]; rfl)
    have k1 : q ≠ 1 := fun e => n1 (by rw [e]; rfl)
    have k2 : q ≠ 2 := fun e => n2 (by rw [e]; rfl)
    refine ⟨_, rfl, ?_, rfl⟩
    rw [h3 (by omega)]
    show zx_u2 I 132 0 0 136 (nI p).toNatClampNeg = _
    rw [hcl, zi_u I (by omega), r3]
  · have k2 : q = 2 := (nI_eq (by omega) (by decide)).mp n2
    refine ⟨_, rfl, ?_, rfl⟩
    rw [h2 k2]
    show zx_u2 I 132 0 0 135 (nI p).toNatClampNeg = _
    rw [hcl, zi_u I (by omega), r2]
  · have k1 : q = 1 := (nI_eq (by omega) (by decide)).mp n1
    show zx_Ci l E (d + 1) 171 [.int (zx_u2 I 132 0 0 134 (nI p).toNatClampNeg)] (zx_u2 I 132 0 0, L, Y) _
    rw [hcl, zi_u I (by omega), r1, hc]
    exact zy_171 hY (by omega) ⟨hY, _, rfl, (h1 k1).symm, rfl⟩
  · have k0 : q = 0 := (nI_eq (by omega) (by decide)).mp n0
    refine ⟨_, rfl, ?_, rfl⟩
    rw [h0 k0]
    show zx_u2 I 132 0 0 134 (nI p).toNatClampNeg = _
    rw [hcl, zi_u I (by omega), r1]
theorem zi_of (hY : zx_lay Y) (hC : zc_C I P S b r H) (hx : zy_one P x = true) (hy : 0 ≤ y.toInt ∧ y.toInt ≤ 3) :
    ∃ v, zx_Ci l E (d + 1) 122 [.ref 3, .int x, .int y] (I, L, Y) (fun w M' => w = v ∧ M' = (I, L, Y)) ∧ ∀ K, zx_Ci l E (d + 2) 187 [.ref 132, .int x, .int y] (I, K, Y) (fun w M' => w = v ∧ M' = (zx_u2 I 132 0 0, K, Y)) := by
  have hP10 := hC.1.1
  obtain ⟨p, hp, rfl⟩ := zy_one_at hx (by omega)
  obtain ⟨q, hq31, rfl⟩ := nI_of (x := y) (fun h => by rw [Int32.lt_iff_toInt_lt] at h; have := zy_i0; omega)
  rw [nI_toInt hq31] at hy
  obtain ⟨f, f1, -⟩ := zc_nm hC
  obtain ⟨hc, hc7⟩ := f1 p (by omega)
  have hq : q ≤ 3 := by omega
  refine ⟨if q = 0 then I 9 p else if q = 1 then nI (zy_len (f p)) else if q = 2 then I 10 p else nI (if S.testBit p then 1 else 0), zi_of_c hY hC hp hq hc hc7 ?_ ?_ ?_ ?_, fun K => zi_of_r hY hC hp hq hc hc7 ?_ ?_ ?_ ?_⟩ <;> intro e <;> subst e <;> rfl
theorem zi_of_x (hY : zx_lay Y) (hC : zc_C I P S b r H) (h : ¬ (zy_one P x = true ∧ 0 ≤ y.toInt ∧ y.toInt ≤ 3)) :
    zx_Ci l E (d + 2) 187 [.ref 132, .int x, .int y] (I, L, Y) (fun _ M' => M' = (zx_u2 (zx_u2 I 132 0 0) 132 0 1, L, Y)) := by
  refine sg_187_0 hY _ _ (zy_175 (I := zx_u2 I 132 0 0) hY hC.1.1 ((zi_u I (by decide)).trans hC.1.2.2) ?_)
  have e0 : (0 : Int64).toInt = 0 := by decide
  have e3 : (3 : Int64).toInt = 3 := by decide
  cases hone : zy_one P x
  · exact ⟨hY, fun _ => sg_166_0 hY ⟨_, rfl, hY, _, rfl, rfl⟩, fun q => (q rfl).elim⟩
  · refine ⟨hY, fun q => absurd q (by decide), fun _ => zy_167i (b := false) hY ?_ ⟨hY, fun q => (q rfl).elim, fun _ => sg_166_0 hY ⟨_, rfl, hY, _, rfl, rfl⟩⟩⟩
    rw [e0, e3]
    exact (decide_eq_false (fun q => h ⟨hone, q⟩)).symm
theorem zi_row {vs : List Int32} (hY : zx_lay Y) (hR : zc_R I vs) {p : Nat} (hp : p < vs.length) :
    zx_Ci l E (d + 1) 154 [.ref 3, .int (nI p)] (I, L, Y) (fun w M' => w = vs.getD p 0 ∧ M' = (I, L, Y)) ∧ ∀ K, zx_Ci l E (d + 1) 264 [.ref 132, .int (nI p)] (I, K, Y) (fun w M' => w = vs.getD p 0 ∧ M' = (zx_u2 I 132 0 0, K, Y)) := by
  obtain ⟨h12, h6, h132, hv⟩ := hR
  have hcl : (nI p).toNatClampNeg = p := nI_clamp (by omega)
  refine ⟨sg_154_0 hY _ ⟨fun h => absurd h (nI_pos (by omega)), fun _ => ⟨fun _ => ⟨nI_in (by omega) (by omega), _, rfl, ?_, rfl⟩, fun h => absurd (by rw [h6]; exact nI_lt hp (by omega)) h⟩⟩, fun K => ?_⟩
  · show I 7 (nI p).toNatClampNeg = _
    rw [hcl]
    exact (hv p hp).1
  · refine sg_264_0 hY _ (zy_167i (b := true) hY ?_ ⟨hY, fun _ => ⟨nI_in (by omega) (by omega), _, rfl, ?_, rfl⟩, fun h => absurd h (by decide)⟩)
    · have e0 : (0 : Int64).toInt = 0 := by decide
      have e2 : (nI vs.length - 1).toInt = (vs.length : Int) - 1 := pk_sub_toInt (a := vs.length) (b := 1) (by omega) (by omega)
      rw [h132, Int32.toInt_toInt64, e0, e2, nI_toInt (by omega)]
      exact (decide_eq_true (by omega)).symm
    · show zx_u2 I 132 0 0 133 (nI p).toNatClampNeg = _
      rw [hcl, zi_u I (by omega)]
      exact (hv p hp).2
theorem zi_row_x {vs : List Int32} (hY : zx_lay Y) (hR : zc_R I vs) (h : ¬ (0 ≤ x.toInt ∧ x.toInt < (vs.length : Int))) :
    zx_Ci l E (d + 1) 264 [.ref 132, .int x] (I, L, Y) (fun _ M' => M' = (zx_u2 (zx_u2 I 132 0 0) 132 0 1, L, Y)) := by
  obtain ⟨h12, h6, h132, hv⟩ := hR
  refine sg_264_0 hY _ (zy_167i (b := false) hY ?_ ⟨hY, fun q => (q rfl).elim, fun _ => ⟨_, rfl, rfl⟩⟩)
  have e0 : (0 : Int64).toInt = 0 := by decide
  have e2 : (nI vs.length - 1).toInt = (vs.length : Int) - 1 := pk_sub_toInt (a := vs.length) (b := 1) (by omega) (by omega)
  rw [h132, Int32.toInt_toInt64, e0, e2]
  exact (decide_eq_false (fun q => h (by omega))).symm
theorem zi_165 (hY : zx_lay Y) (hv : I 132 0 = v) : zx_Ci l E d 165 [.ref 132] (I, L, Y) (fun w M' => w = v ∧ M' = (I, L, Y)) := sg_165_0 hY ⟨_, rfl, hv, rfl⟩
end ZIO
