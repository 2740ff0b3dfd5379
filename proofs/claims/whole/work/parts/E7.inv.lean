/-! ===== what holds between the law's calls (printed by wip/gen/inv.py) ===== -/
def zi_V (k : Nat) (I : Nat → Nat → Int32) (L : Nat → Nat → Int64) (Y : zx_Y) : Prop :=
  zx_lay Y ∧ (∃ n, zc_T I n) ∧ (∃ P S b r H, zc_C I P S b r H ∧ zc_K I P) ∧ zc_P I ∧ zc_N I ∧ (∃ vs, zc_R I vs) ∧ (∃ m w, zc_L I m w) ∧ zc_S I ∧
  ∃ fo B, zs_S1 I L Y fo B k ∧ B ≤ 184937 + 6 * k ∧ Y.2.2.2.1 ≤ 160 + 5 * k
theorem zi_mk {k : Nat} {I : Nat → Nat → Int32} {L : Nat → Nat → Int64} {Y : zx_Y} {n P S b r m w B : Nat} {H : List (Nat × Nat)} {vs : List Int32} {fo : Nat → Nat} (hY : zx_lay Y) (hT : zc_T I n) (hC : zc_C I P S b r H) (hK : zc_K I P) (hP : zc_P I) (hN : zc_N I) (hR : zc_R I vs) (hL : zc_L I m w) (hS : zc_S I) (h1 : zs_S1 I L Y fo B k) (hB : B ≤ 184937 + 6 * k) (hn : Y.2.2.2.1 ≤ 160 + 5 * k) : zi_V k I L Y :=
  ⟨hY, ⟨n, hT⟩, ⟨P, S, b, r, H, hC, hK⟩, hP, hN, ⟨vs, hR⟩, ⟨m, w, hL⟩, hS, fo, B, h1, hB, hn⟩
/-- room -/
theorem zi_room {k : Nat} {I : Nat → Nat → Int32} {L : Nat → Nat → Int64} {Y : zx_Y} (h : zi_V k I L Y) (hk : k ≤ 600) : Y.2.2.2.1 ≤ 4000 ∧ Y.2.2.2.2 ≤ 600000 := by
  obtain ⟨-, -, -, -, -, -, -, -, fo, B, h1, hB, hn⟩ := h
  obtain ⟨N, π, G, fr, lg, q, R, Z, mk, nf, -, -, hs, ⟨-, T, U, e, hT, hU, -⟩, -⟩ := h1
  have hR : R ≤ 20006 := hs.1.2.2.2.2.1
  have hZ : Z ≤ 65536 := hs.1.2.2.2.2.2
  refine ⟨by omega, ?_⟩
  rcases hT with hT | hT <;> omega
def zi_W (W : List (Nat × Nat × Nat)) : Bool := W.all fun w => Nat.blt w.1 22 || (Nat.blt 62 w.1 && Nat.blt w.1 71) || (Nat.blt 75 w.1 && Nat.blt w.1 160)
theorem zi_Wn {W : List (Nat × Nat × Nat)} (hw : zi_W W = true) {a x : Nat} (ha : (22 ≤ a ∧ a ≤ 62) ∨ (71 ≤ a ∧ a ≤ 75) ∨ 160 ≤ a) : ¬ zy_in W a x := by
  rintro ⟨w, hm, e, -⟩
  have := List.all_eq_true.mp hw w hm
  simp only [Bool.or_eq_true, Bool.and_eq_true] at this
  rcases this with (h | ⟨h1, h2⟩) | ⟨h1, h2⟩
  · have : w.1 < 22 := Nat.le_of_ble_eq_true h
    omega
  · have : 62 < w.1 := Nat.le_of_ble_eq_true h1
    have : w.1 < 71 := Nat.le_of_ble_eq_true h2
    omega
  · have : 75 < w.1 := Nat.le_of_ble_eq_true h1
    have : w.1 < 160 := Nat.le_of_ble_eq_true h2
    omega
section ZIV
variable {l : Launch} {E : zx_E} {k B : Nat} {fo : Nat → Nat} {I I' : Nat → Nat → Int32} {L : Nat → Nat → Int64} {Y Y' : zx_Y} {W : List (Nat × Nat × Nat)}
theorem zi_s1 (h : zs_S1 I L Y fo B k) (hf : zy_fr W I I') (hw : zi_W W = true) : zs_S1 I' L Y fo B (k + 1) :=
  zs_S1_up (zs_S1_same h (fun a x ha => hf a x (zi_Wn hw ha)) (fun _ _ _ => rfl))
theorem zi_s1p (h : zs_S1 I L Y fo B k) (hf : zy_frp W I I') (hw : zi_W W = true) (hy : Y' = Y ∨ ∃ p, Y' = zn_Yp Y p) : zs_S1 I' L Y' fo B (k + 1) := by
  have h2 : zs_S1 I' L Y fo B (k + 1) := zs_S1_up (zs_S1_same h (fun a x ha => hf a x (zi_Wn hw ha) (by omega)) (fun _ _ _ => rfl))
  rcases hy with rfl | ⟨p, rfl⟩
  · exact h2
  · exact zs_S1_cong (z := 0) h2 (fun _ _ _ => rfl) (fun _ _ _ => rfl) (fun x _ _ => show zx_u2 Y.1 76 5 (some p) 22 x = Y.1 22 x from if_neg (fun q => absurd q.1 (by decide))) (fun _ _ => ⟨rfl, rfl⟩) (Nat.le_refl _) rfl
def zi_J (R : List (Nat × Nat × Nat)) : Bool := R.all fun r => Nat.blt r.1 160 && (Nat.blt r.1 22 || Nat.blt 75 r.1) && !(Nat.beq r.1 7) && !(Nat.beq r.1 6) && !(Nat.beq r.1 133) && (Nat.blt r.1 146 || Nat.blt 149 r.1) && (!(Nat.beq r.1 132) || (Nat.ble 2 r.2.1 && (Nat.ble r.2.2 33 || Nat.ble 35 r.2.1)))
theorem zi_fj (hf : zs_fj I I') {R : List (Nat × Nat × Nat)} (hd : zi_J R = true) : ∀ a x, zy_in R a x → I' a x = I a x := by
  rintro a x ⟨r, hm, e, h1, h2⟩
  have := List.all_eq_true.mp hd r hm
  simp only [Bool.or_eq_true, Bool.and_eq_true, Bool.not_eq_true'] at this
  obtain ⟨⟨⟨⟨⟨⟨q1, q2⟩, q3⟩, q4⟩, q5⟩, q6⟩, q7⟩ := this
  have q1 : r.1 < 160 := Nat.le_of_ble_eq_true q1
  have q2 : r.1 < 22 ∨ 75 < r.1 := q2.imp (fun h => Nat.le_of_ble_eq_true h) (fun h => Nat.le_of_ble_eq_true h)
  have q3 : r.1 ≠ 7 := Nat.ne_of_beq_eq_false q3
  have q4 : r.1 ≠ 6 := Nat.ne_of_beq_eq_false q4
  have q5 : r.1 ≠ 133 := Nat.ne_of_beq_eq_false q5
  have q6 : r.1 < 146 ∨ 149 < r.1 := q6.imp (fun h => Nat.le_of_ble_eq_true h) (fun h => Nat.le_of_ble_eq_true h)
  have q7 : r.1 ≠ 132 ∨ (2 ≤ r.2.1 ∧ (r.2.2 ≤ 33 ∨ 35 ≤ r.2.1)) := q7.imp (fun h => Nat.ne_of_beq_eq_false h) (fun h => ⟨Nat.le_of_ble_eq_true h.1, h.2.imp (fun h => Nat.le_of_ble_eq_true h) (fun h => Nat.le_of_ble_eq_true h)⟩)
  exact hf a x (by omega) (by omega) (by omega) (by omega) (by omega) (by omega) (by omega)
theorem zi_f0 (I : Nat → Nat → Int32) (w : Int32) : zy_fr [(132, 0, 1)] I (zx_u2 I 132 0 w) := zy_fr_u2 (zy_fr_rf _ I) (zy_in_at 0 132 0 1 0 rfl (by omega) (by omega))
def zw_l2 : List (Nat × Nat × Nat) := (117, 2, 4) :: (132, 0, 1) :: (132, 36, 38) :: zw_ln
theorem zi_listen {d m w : Nat} {Q : Int32 → zx_M → Prop} (hY : zx_lay Y) (hL : zc_L I m w) {x : Int32} (hq : ∀ v I' m' w', zc_L I' m' w' → zy_fr zw_l2 I I' → Q v (I', L, Y)) :
    zx_Ci l E (d + 3) 145 [.ref 3, .int x] (I, L, Y) (fun v M1 => zx_lay M1.2.2 ∧ zx_Ci l E (d + 3) 251 [.ref 132, .int x] M1 (fun w M2 => w = v ∧ Q v M2)) := by
  have e1 : (1 : Int64).toInt = 1 := by decide
  have e6 : (6 : Int64).toInt = 6 := by decide
  have no : ¬ (1 ≤ x.toInt ∧ x.toInt ≤ 6) → zx_Ci l E (d + 3) 251 [.ref 132, .int x] (I, L, Y) (fun w M2 => w = -1 ∧ Q (-1) M2) := fun h => by
    refine sg_251_0 hY _ (zy_167i hY (b := decide (1 ≤ x.toInt ∧ x.toInt ≤ 6)) (by rw [e1, e6]) ⟨hY, fun h2 => ?_, fun _ => ⟨_, rfl, rfl, hq _ _ m w (zc_L_cong hL (zy_fr_on zy_thr_fr (by decide))) (zy_fr_mono zy_thr_fr (by decide))⟩⟩)
    rw [zy_b1, decide_eq_true_eq] at h2; exact absurd h2 h
  have i1 : (1 : Int32).toInt = 1 := by decide
  have i6 : (6 : Int32).toInt = 6 := by decide
  refine sg_145_0 hY _ ⟨fun h => ⟨_, rfl, hY, no ?_⟩, fun h => ⟨fun h2 => ?_, fun h2 => ⟨_, rfl, hY, no ?_⟩⟩⟩
  · rw [Int32.lt_iff_toInt_lt, i1] at h; omega
  · rw [Int32.lt_iff_toInt_lt, i1] at h
    rw [Int32.le_iff_toInt_le, i6] at h2
    obtain ⟨v, hv, rfl⟩ := nI_of (x := x) (fun q => by rw [Int32.lt_iff_toInt_lt, zy_i0] at q; omega)
    rw [nI_toInt hv] at h h2
    have v1 : 1 ≤ v := by omega
    have v6 : v ≤ 6 := by omega
    refine zy_c37 (I := zx_u2 (zx_u2 I 117 3 (nI v)) 117 2 0) hY v6 v1 (by rw [zy_u2_nk (by omega), zy_u2_self]) ⟨hY, _, rfl, hY, ?_⟩
    refine sg_251_0 hY _ (zy_167i hY (b := true) (by rw [e1, e6, nI_toInt hv, decide_eq_true (by omega)]) ⟨hY, fun _ => ?_, fun h => absurd h (by decide)⟩)
    generalize hI2 : zx_u2 (zx_u2 (zx_u2 (zx_u2 (zx_u2 I 117 3 (nI v)) 117 2 0) 132 0 0) 132 36 (nI v)) 132 37 0 = I2
    have fr2 : zy_fr zw_l2 I I2 := by
      rw [← hI2]
      exact zy_fr_u2 (zy_fr_u2 (zy_fr_u2 (zy_fr_u2 (zy_fr_u2 (zy_fr_rf _ _) (zy_in_at 0 117 2 4 3 rfl (by omega) (by omega))) (zy_in_at 0 117 2 4 2 rfl (by omega) (by omega))) (zy_in_at 1 132 0 1 0 rfl (by omega) (by omega))) (zy_in_at 2 132 36 38 36 rfl (by omega) (by omega))) (zy_in_at 2 132 36 38 37 rfl (by omega) (by omega))
    have hL2 : zc_L I2 0 v := by
      rw [← hI2]
      refine ⟨⟨Nat.zero_le _, ?_, ?_⟩, ⟨v1, v6, ?_, ?_⟩, fun t ht => by omega⟩
      · simp [zx_u2, nI_0]
      · simp [zx_u2, nI_0]
      · simp [zx_u2]
      · simp [zx_u2]
    obtain ⟨-, hD, -⟩ := zl_of_L hL2
    have hN := (zl_of5 v6 v1).1
    have hlen : (zl_fits (zl_hc I2) (zl_ha I2) 0 v).length = zl_of v 5 := zl_F_all _ (fun i _ => rfl)
    show zx_Cv l E (d + 2) 249 [.ref 132] (I2, L, Y) _
    refine zy_249 hY hD ⟨hY, _, rfl, ?_⟩
    have frW := zl_W_fr (I := I2) (F := zl_fits (zl_hc I2) (zl_ha I2) 0 v) (g := zl_v (zl_hc I2) (zl_ha I2) 0) (by omega)
    refine ⟨by dsimp only; rw [zl_W_44, hlen], hq _ _ 0 v (zc_L_cong hL2 (zy_fr_on frW (by decide))) (zy_fr_tr fr2 (zy_fr_mono frW (by decide)))⟩
  · rw [Int32.le_iff_toInt_le, i6] at h2; omega
theorem zi_0 (h : zi_V k I L Y) {x : Int32} : zx_Ci l E 20 118 [.ref 3, .int x] (I, L, Y) (fun v M1 => zx_lay M1.2.2 ∧ zx_Ci l E 20 176 [.ref 132, .int x] M1 (fun w M2 => w = v ∧ zi_V (k + 1) M2.1 M2.2.1 M2.2.2)) := by
  obtain ⟨hY, ⟨n, hT⟩, ⟨P, S, b, r, H, hC, hK⟩, hP, hN, ⟨vs, hR⟩, ⟨m, w, hL⟩, hS, fo, B, h1, hB, hn⟩ := h
  exact zj_sign (d := 19) hY hT (fun v I' n' hT2 hf => zi_mk hY hT2 (zc_C_cong hC (zy_fr_on hf rfl)) (zc_K_cong hK (zy_fr_on hf rfl)) (zc_P_cong hP (zy_fr_on hf rfl)) (zc_N_cong hN (zy_fr_on hf rfl)) (zc_R_cong hR (zy_fr_on hf rfl)) (zc_L_cong hL (zy_fr_on hf rfl)) (zc_S_cong hS (zy_fr_on hf rfl)) (zi_s1 h1 hf rfl) (by omega) (Nat.le_trans hn (by omega)))
theorem zi_1 (h : zi_V k I L Y) {x : Int32} : zx_Ci l E 20 119 [.ref 3, .int x] (I, L, Y) (fun v M1 => zx_lay M1.2.2 ∧ zx_Ci l E 20 177 [.ref 132, .int x] M1 (fun w M2 => w = v ∧ zi_V (k + 1) M2.1 M2.2.1 M2.2.2)) := by
  obtain ⟨hY, ⟨n, hT⟩, ⟨P, S, b, r, H, hC, hK⟩, hP, hN, ⟨vs, hR⟩, ⟨m, w, hL⟩, hS, fo, B, h1, hB, hn⟩ := h
  exact zj_end (d := 19) hY hT (fun v I' n' hT2 hf => zi_mk hY hT2 (zc_C_cong hC (zy_fr_on hf rfl)) (zc_K_cong hK (zy_fr_on hf rfl)) (zc_P_cong hP (zy_fr_on hf rfl)) (zc_N_cong hN (zy_fr_on hf rfl)) (zc_R_cong hR (zy_fr_on hf rfl)) (zc_L_cong hL (zy_fr_on hf rfl)) (zc_S_cong hS (zy_fr_on hf rfl)) (zi_s1 h1 hf rfl) (by omega) (Nat.le_trans hn (by omega)))
theorem zi_2 (h : zi_V k I L Y) : zx_Ci l E 20 120 [.ref 3] (I, L, Y) (fun v M1 => zx_lay M1.2.2 ∧ zx_Ci l E 20 185 [.ref 132] M1 (fun w M2 => w = v ∧ zi_V (k + 1) M2.1 M2.2.1 M2.2.2)) := by
  obtain ⟨hY, ⟨n, hT⟩, ⟨P, S, b, r, H, hC, hK⟩, hP, hN, ⟨vs, hR⟩, ⟨m, w, hL⟩, hS, fo, B, h1, hB, hn⟩ := h
  exact zj_crowd (d := 16) hY hC hT hP (fun v I' P' H' hPP hC2 hT2 hP2 hf => zi_mk hY hT2 hC2 (zc_K_more (zc_K_cong hK (zy_fr_on hf rfl)) hPP) hP2 (zc_N_cong hN (zy_fr_on hf rfl)) (zc_R_cong hR (zy_fr_on hf rfl)) (zc_L_cong hL (zy_fr_on hf rfl)) (zc_S_cong hS (zy_fr_on hf rfl)) (zi_s1 h1 hf rfl) (by omega) (Nat.le_trans hn (by omega)))
theorem zi_3 (h : zi_V k I L Y) {x1 : Int32} {x2 : Int32} {x3 : Int32} {x4 : Int32} : zx_Ci l E 20 121 [.ref 3, .int x1, .int x2, .int x3, .int x4] (I, L, Y) (fun v M1 => zx_lay M1.2.2 ∧ zx_Ci l E 20 186 [.ref 132, .int x1, .int x2, .int x3, .int x4] M1 (fun w M2 => w = v ∧ zi_V (k + 1) M2.1 M2.2.1 M2.2.2)) := by
  obtain ⟨hY, ⟨n, hT⟩, ⟨P, S, b, r, H, hC, hK⟩, hP, hN, ⟨vs, hR⟩, ⟨m, w, hL⟩, hS, fo, B, h1, hB, hn⟩ := h
  exact zj_sheet (d := 18) hY hC (fun v I' H' hC2 hf => zi_mk hY (zc_T_cong hT (zy_fr_on hf rfl)) hC2 (zc_K_cong hK (zy_fr_on hf rfl)) (zc_P_cong hP (zy_fr_on hf rfl)) (zc_N_cong hN (zy_fr_on hf rfl)) (zc_R_cong hR (zy_fr_on hf rfl)) (zc_L_cong hL (zy_fr_on hf rfl)) (zc_S_cong hS (zy_fr_on hf rfl)) (zi_s1 h1 hf rfl) (by omega) (Nat.le_trans hn (by omega)))
theorem zi_5 (h : zi_V k I L Y) {x1 : Int32} {x2 : Int32} {x3 : Int32} : zx_Ci l E 20 123 [.ref 3, .int x1, .int x2, .int x3] (I, L, Y) (fun v M1 => zx_lay M1.2.2 ∧ zx_Ci l E 20 188 [.ref 132, .int x1, .int x2, .int x3] M1 (fun w M2 => w = v ∧ zi_V (k + 1) M2.1 M2.2.1 M2.2.2)) := by
  obtain ⟨hY, ⟨n, hT⟩, ⟨P, S, b, r, H, hC, hK⟩, hP, hN, ⟨vs, hR⟩, ⟨m, w, hL⟩, hS, fo, B, h1, hB, hn⟩ := h
  exact zj_set (d := 19) hY hC hP (fun v I' b' hC2 hP2 hf => zi_mk hY (zc_T_cong hT (zy_fr_on hf rfl)) hC2 (zc_K_cong hK (zy_fr_on hf rfl)) hP2 (zc_N_cong hN (zy_fr_on hf rfl)) (zc_R_cong hR (zy_fr_on hf rfl)) (zc_L_cong hL (zy_fr_on hf rfl)) (zc_S_cong hS (zy_fr_on hf rfl)) (zi_s1 h1 hf rfl) (by omega) (Nat.le_trans hn (by omega)))
theorem zi_6 (h : zi_V k I L Y) {x : Int32} : zx_Ci l E 20 124 [.ref 3, .int x] (I, L, Y) (fun v M1 => zx_lay M1.2.2 ∧ zx_Ci l E 20 193 [.ref 132, .int x] M1 (fun w M2 => w = v ∧ zi_V (k + 1) M2.1 M2.2.1 M2.2.2)) := by
  obtain ⟨hY, ⟨n, hT⟩, ⟨P, S, b, r, H, hC, hK⟩, hP, hN, ⟨vs, hR⟩, ⟨m, w, hL⟩, hS, fo, B, h1, hB, hn⟩ := h
  exact zj_call (d := 17) hY hC (fun v I' S' r' H' hC2 hf => zi_mk hY (zc_T_cong hT (zy_fr_on hf rfl)) hC2 (zc_K_cong hK (zy_fr_on hf rfl)) (zc_P_cong hP (zy_fr_on hf rfl)) (zc_N_cong hN (zy_fr_on hf rfl)) (zc_R_cong hR (zy_fr_on hf rfl)) (zc_L_cong hL (zy_fr_on hf rfl)) (zc_S_cong hS (zy_fr_on hf rfl)) (zi_s1 h1 hf rfl) (by omega) (Nat.le_trans hn (by omega)))
theorem zi_7 (h : zi_V k I L Y) {x : Int32} : zx_Ci l E 20 125 [.ref 3, .int x] (I, L, Y) (fun v M1 => zx_lay M1.2.2 ∧ zx_Ci l E 20 194 [.ref 132, .int x] M1 (fun w M2 => w = v ∧ zi_V (k + 1) M2.1 M2.2.1 M2.2.2)) := by
  obtain ⟨hY, ⟨n, hT⟩, ⟨P, S, b, r, H, hC, hK⟩, hP, hN, ⟨vs, hR⟩, ⟨m, w, hL⟩, hS, fo, B, h1, hB, hn⟩ := h
  exact zj_hey (d := 17) hY hC (fun v I' S' r' H' hC2 hf => zi_mk hY (zc_T_cong hT (zy_fr_on hf rfl)) hC2 (zc_K_cong hK (zy_fr_on hf rfl)) (zc_P_cong hP (zy_fr_on hf rfl)) (zc_N_cong hN (zy_fr_on hf rfl)) (zc_R_cong hR (zy_fr_on hf rfl)) (zc_L_cong hL (zy_fr_on hf rfl)) (zc_S_cong hS (zy_fr_on hf rfl)) (zi_s1 h1 hf rfl) (by omega) (Nat.le_trans hn (by omega)))
theorem zi_8 (h : zi_V k I L Y) {x : Int32} : zx_Ci l E 20 126 [.ref 3, .int x] (I, L, Y) (fun v M1 => zx_lay M1.2.2 ∧ zx_Ci l E 20 196 [.ref 132, .int x] M1 (fun w M2 => w = v ∧ zi_V (k + 1) M2.1 M2.2.1 M2.2.2)) := by
  obtain ⟨hY, ⟨n, hT⟩, ⟨P, S, b, r, H, hC, hK⟩, hP, hN, ⟨vs, hR⟩, ⟨m, w, hL⟩, hS, fo, B, h1, hB, hn⟩ := h
  exact zj_begin (d := 17) hY hC (fun v => zi_mk hY (zc_T_cong hT (zy_fr_on (zi_f0 I 0) rfl)) (zc_C_cong hC (zy_fr_on (zi_f0 I 0) rfl)) (zc_K_cong hK (zy_fr_on (zi_f0 I 0) rfl)) (zc_P_cong hP (zy_fr_on (zi_f0 I 0) rfl)) (zc_N_cong hN (zy_fr_on (zi_f0 I 0) rfl)) (zc_R_cong hR (zy_fr_on (zi_f0 I 0) rfl)) (zc_L_cong hL (zy_fr_on (zi_f0 I 0) rfl)) (zc_S_cong hS (zy_fr_on (zi_f0 I 0) rfl)) (zi_s1 h1 (zi_f0 I 0) rfl) (by omega) (Nat.le_trans hn (by omega)))
theorem zi_9 (h : zi_V k I L Y) : zx_Ci l E 20 127 [.ref 3] (I, L, Y) (fun v M1 => zx_lay M1.2.2 ∧ zx_Ci l E 20 197 [.ref 132] M1 (fun w M2 => w = v ∧ zi_V (k + 1) M2.1 M2.2.1 M2.2.2)) := by
  obtain ⟨hY, ⟨n, hT⟩, ⟨P, S, b, r, H, hC, hK⟩, hP, hN, ⟨vs, hR⟩, ⟨m, w, hL⟩, hS, fo, B, h1, hB, hn⟩ := h
  exact zj_undo (d := 18) hY hC (fun v I' S' r' H' hC2 hf => zi_mk hY (zc_T_cong hT (zy_fr_on hf rfl)) hC2 (zc_K_cong hK (zy_fr_on hf rfl)) (zc_P_cong hP (zy_fr_on hf rfl)) (zc_N_cong hN (zy_fr_on hf rfl)) (zc_R_cong hR (zy_fr_on hf rfl)) (zc_L_cong hL (zy_fr_on hf rfl)) (zc_S_cong hS (zy_fr_on hf rfl)) (zi_s1 h1 hf rfl) (by omega) (Nat.le_trans hn (by omega)))
theorem zi_10 (h : zi_V k I L Y) : zx_Ci l E 20 128 [.ref 3] (I, L, Y) (fun v M1 => zx_lay M1.2.2 ∧ zx_Ci l E 20 206 [.ref 132] M1 (fun w M2 => w = v ∧ zi_V (k + 1) M2.1 M2.2.1 M2.2.2)) := by
  obtain ⟨hY, ⟨n, hT⟩, ⟨P, S, b, r, H, hC, hK⟩, hP, hN, ⟨vs, hR⟩, ⟨m, w, hL⟩, hS, fo, B, h1, hB, hn⟩ := h
  exact zj_order (d := 0) hY hC hT hR (fun v I' S' r' H' vs' hC2 hT2 hR2 hf => zi_mk hY hT2 hC2 (zc_K_cong hK (zy_fr_on hf rfl)) (zc_P_cong hP (zy_fr_on hf rfl)) (zc_N_cong hN (zy_fr_on hf rfl)) hR2 (zc_L_cong hL (zy_fr_on hf rfl)) (zc_S_cong hS (zy_fr_on hf rfl)) (zi_s1 h1 hf rfl) (by omega) (Nat.le_trans hn (by omega)))
theorem zi_11 (h : zi_V k I L Y) {x : Int32} {y : Int32} : zx_Ci l E 20 129 [.ref 3, .int x, .int y] (I, L, Y) (fun v M1 => zx_lay M1.2.2 ∧ zx_Ci l E 20 207 [.ref 132, .int x, .int y] M1 (fun w M2 => w = v ∧ zi_V (k + 1) M2.1 M2.2.1 M2.2.2)) := by
  obtain ⟨hY, ⟨n, hT⟩, ⟨P, S, b, r, H, hC, hK⟩, hP, hN, ⟨vs, hR⟩, ⟨m, w, hL⟩, hS, fo, B, h1, hB, hn⟩ := h
  exact zj_pass (d := 18) hY hC (fun v I' H' hC2 hf => zi_mk hY (zc_T_cong hT (zy_fr_on hf rfl)) hC2 (zc_K_cong hK (zy_fr_on hf rfl)) (zc_P_cong hP (zy_fr_on hf rfl)) (zc_N_cong hN (zy_fr_on hf rfl)) (zc_R_cong hR (zy_fr_on hf rfl)) (zc_L_cong hL (zy_fr_on hf rfl)) (zc_S_cong hS (zy_fr_on hf rfl)) (zi_s1 h1 hf rfl) (by omega) (Nat.le_trans hn (by omega)))
theorem zi_12 (h : zi_V k I L Y) {x : Int32} {y : Int32} : zx_Ci l E 20 130 [.ref 3, .int x, .int y] (I, L, Y) (fun v M1 => zx_lay M1.2.2 ∧ zx_Ci l E 20 209 [.ref 132, .int x, .int y] M1 (fun w M2 => w = v ∧ zi_V (k + 1) M2.1 M2.2.1 M2.2.2)) := by
  obtain ⟨hY, ⟨n, hT⟩, ⟨P, S, b, r, H, hC, hK⟩, hP, hN, ⟨vs, hR⟩, ⟨m, w, hL⟩, hS, fo, B, h1, hB, hn⟩ := h
  exact zj_rename (d := 18) hY hC hP (fun v I' H' hC2 hf => zi_mk hY (zc_T_cong hT (zy_fr_on hf rfl)) hC2 (zc_K_cong hK (zy_fr_on hf rfl)) (zc_P_cong hP (zy_fr_on hf rfl)) (zc_N_cong hN (zy_fr_on hf rfl)) (zc_R_cong hR (zy_fr_on hf rfl)) (zc_L_cong hL (zy_fr_on hf rfl)) (zc_S_cong hS (zy_fr_on hf rfl)) (zi_s1 h1 hf rfl) (by omega) (Nat.le_trans hn (by omega)))
theorem zi_13 (h : zi_V k I L Y) {x : Int32} : zx_Ci l E 20 131 [.ref 3, .int x] (I, L, Y) (fun v M1 => zx_lay M1.2.2 ∧ zx_Ci l E 20 212 [.ref 132, .int x] M1 (fun w M2 => w = v ∧ zi_V (k + 1) M2.1 M2.2.1 M2.2.2)) := by
  obtain ⟨hY, ⟨n, hT⟩, ⟨P, S, b, r, H, hC, hK⟩, hP, hN, ⟨vs, hR⟩, ⟨m, w, hL⟩, hS, fo, B, h1, hB, hn⟩ := h
  exact zj_season (d := 17) hY hC hN hR (fun v I' S' r' H' vs' hC2 hN2 hR2 hf => zi_mk hY (zc_T_cong hT (zy_fr_on hf rfl)) hC2 (zc_K_cong hK (zy_fr_on hf rfl)) (zc_P_cong hP (zy_fr_on hf rfl)) hN2 hR2 (zc_L_cong hL (zy_fr_on hf rfl)) (zc_S_cong hS (zy_fr_on hf rfl)) (zi_s1 h1 hf rfl) (by omega) (Nat.le_trans hn (by omega)))
theorem zi_14 (h : zi_V k I L Y) {x : Int32} {y : Int32} : zx_Ci l E 20 132 [.ref 3, .int x, .int y] (I, L, Y) (fun v M1 => zx_lay M1.2.2 ∧ zx_Ci l E 20 214 [.ref 132, .int x, .int y] M1 (fun w M2 => w = v ∧ zi_V (k + 1) M2.1 M2.2.1 M2.2.2)) := by
  obtain ⟨hY, ⟨n, hT⟩, ⟨P, S, b, r, H, hC, hK⟩, hP, hN, ⟨vs, hR⟩, ⟨m, w, hL⟩, hS, fo, B, h1, hB, hn⟩ := h
  exact zj_common (d := 17) hY hC (fun v => zi_mk hY (zc_T_cong hT (zy_fr_on (zi_f0 I 0) rfl)) (zc_C_cong hC (zy_fr_on (zi_f0 I 0) rfl)) (zc_K_cong hK (zy_fr_on (zi_f0 I 0) rfl)) (zc_P_cong hP (zy_fr_on (zi_f0 I 0) rfl)) (zc_N_cong hN (zy_fr_on (zi_f0 I 0) rfl)) (zc_R_cong hR (zy_fr_on (zi_f0 I 0) rfl)) (zc_L_cong hL (zy_fr_on (zi_f0 I 0) rfl)) (zc_S_cong hS (zy_fr_on (zi_f0 I 0) rfl)) (zi_s1 h1 (zi_f0 I 0) rfl) (by omega) (Nat.le_trans hn (by omega)))
theorem zi_15 (h : zi_V k I L Y) {x : Int32} {y : Int32} : zx_Ci l E 20 133 [.ref 3, .int x, .int y] (I, L, Y) (fun v M1 => zx_lay M1.2.2 ∧ zx_Ci l E 20 215 [.ref 132, .int x, .int y] M1 (fun w M2 => w = v ∧ zi_V (k + 1) M2.1 M2.2.1 M2.2.2)) := by
  obtain ⟨hY, ⟨n, hT⟩, ⟨P, S, b, r, H, hC, hK⟩, hP, hN, ⟨vs, hR⟩, ⟨m, w, hL⟩, hS, fo, B, h1, hB, hn⟩ := h
  exact zj_meet (d := 17) hY hC (fun v => zi_mk hY (zc_T_cong hT (zy_fr_on (zi_f0 I 0) rfl)) (zc_C_cong hC (zy_fr_on (zi_f0 I 0) rfl)) (zc_K_cong hK (zy_fr_on (zi_f0 I 0) rfl)) (zc_P_cong hP (zy_fr_on (zi_f0 I 0) rfl)) (zc_N_cong hN (zy_fr_on (zi_f0 I 0) rfl)) (zc_R_cong hR (zy_fr_on (zi_f0 I 0) rfl)) (zc_L_cong hL (zy_fr_on (zi_f0 I 0) rfl)) (zc_S_cong hS (zy_fr_on (zi_f0 I 0) rfl)) (zi_s1 h1 (zi_f0 I 0) rfl) (by omega) (Nat.le_trans hn (by omega)))
theorem zi_16 (h : zi_V k I L Y) {x : Int32} : zx_Ci l E 20 134 [.ref 3, .int x] (I, L, Y) (fun v M1 => zx_lay M1.2.2 ∧ zx_Ci l E 20 217 [.ref 132, .int x] M1 (fun w M2 => w = v ∧ zi_V (k + 1) M2.1 M2.2.1 M2.2.2)) := by
  obtain ⟨hY, ⟨n, hT⟩, ⟨P, S, b, r, H, hC, hK⟩, hP, hN, ⟨vs, hR⟩, ⟨m, w, hL⟩, hS, fo, B, h1, hB, hn⟩ := h
  exact zj_pairs (d := 16) hY hC hR (fun v I' vs' hR2 hf => zi_mk hY (zc_T_cong hT (zy_fr_on hf rfl)) (zc_C_cong hC (zy_fr_on hf rfl)) (zc_K_cong hK (zy_fr_on hf rfl)) (zc_P_cong hP (zy_fr_on hf rfl)) (zc_N_cong hN (zy_fr_on hf rfl)) hR2 (zc_L_cong hL (zy_fr_on hf rfl)) (zc_S_cong hS (zy_fr_on hf rfl)) (zi_s1 h1 hf rfl) (by omega) (Nat.le_trans hn (by omega)))
theorem zi_17 (h : zi_V k I L Y) : zx_Ci l E 20 135 [.ref 3] (I, L, Y) (fun v M1 => zx_lay M1.2.2 ∧ zx_Ci l E 20 218 [.ref 132] M1 (fun w M2 => w = v ∧ zi_V (k + 1) M2.1 M2.2.1 M2.2.2)) := by
  obtain ⟨hY, ⟨n, hT⟩, ⟨P, S, b, r, H, hC, hK⟩, hP, hN, ⟨vs, hR⟩, ⟨m, w, hL⟩, hS, fo, B, h1, hB, hn⟩ := h
  exact zj_tree (d := 16) hY hC (fun v I' vs' hR2 hf => zi_mk hY (zc_T_cong hT (zy_fr_on hf rfl)) (zc_C_cong hC (zy_fr_on hf rfl)) (zc_K_cong hK (zy_fr_on hf rfl)) (zc_P_cong hP (zy_fr_on hf rfl)) (zc_N_cong hN (zy_fr_on hf rfl)) hR2 (zc_L_cong hL (zy_fr_on hf rfl)) (zc_S_cong hS (zy_fr_on hf rfl)) (zi_s1 h1 hf rfl) (by omega) (Nat.le_trans hn (by omega)))
theorem zi_18 (h : zi_V k I L Y) : zx_Ci l E 20 136 [.ref 3] (I, L, Y) (fun v M1 => zx_lay M1.2.2 ∧ zx_Ci l E 20 230 [.ref 132] M1 (fun w M2 => w = v ∧ zi_V (k + 1) M2.1 M2.2.1 M2.2.2)) := by
  obtain ⟨hY, ⟨n, hT⟩, ⟨P, S, b, r, H, hC, hK⟩, hP, hN, ⟨vs, hR⟩, ⟨m, w, hL⟩, hS, fo, B, h1, hB, hn⟩ := h
  exact zj_most (d := 13) hY hC hR h1 (fun f v J K Y2 vs2 hY2 hR2 h2 hf hy hn2 => zi_mk hY2 (zc_T_cong hT (zi_fj hf rfl)) (zc_C_cong hC (zi_fj hf rfl)) (zc_K_cong hK (zi_fj hf rfl)) (zc_P_cong hP (zi_fj hf rfl)) (zc_N_cong hN (zi_fj hf rfl)) hR2 (zc_L_cong hL (zi_fj hf rfl)) (zc_S_cong hS (zi_fj hf rfl)) h2 (by omega) (Nat.le_trans hn2 (by omega)))
theorem zi_19 (h : zi_V k I L Y) (hk : k ≤ 600) {x : Int64} : zx_Ci l E 20 137 [.ref 3, .long x] (I, L, Y) (fun v M1 => zx_lay M1.2.2 ∧ zx_Ci l E 20 235 [.ref 132, .long x] M1 (fun w M2 => w = v ∧ zi_V (k + 1) M2.1 M2.2.1 M2.2.2)) := by
  obtain ⟨hY, ⟨n, hT⟩, ⟨P, S, b, r, H, hC, hK⟩, hP, hN, ⟨vs, hR⟩, ⟨m, w, hL⟩, hS, fo, B, h1, hB, hn⟩ := h
  exact zj_fewest (d := 13) hY hC hR h1 hk (fun f v J K Y2 vs2 hY2 hR2 h2 hf hy hn2 => zi_mk hY2 (zc_T_cong hT (zi_fj hf rfl)) (zc_C_cong hC (zi_fj hf rfl)) (zc_K_cong hK (zi_fj hf rfl)) (zc_P_cong hP (zi_fj hf rfl)) (zc_N_cong hN (zi_fj hf rfl)) hR2 (zc_L_cong hL (zi_fj hf rfl)) (zc_S_cong hS (zi_fj hf rfl)) h2 (by omega) (Nat.le_trans hn2 (by omega)))
theorem zi_20 (h : zi_V k I L Y) (hk : k ≤ 600) {x : Int64} : zx_Ci l E 20 138 [.ref 3, .long x] (I, L, Y) (fun v M1 => zx_lay M1.2.2 ∧ zx_Ci l E 20 236 [.ref 132, .long x] M1 (fun w M2 => w = v ∧ zi_V (k + 1) M2.1 M2.2.1 M2.2.2)) := by
  obtain ⟨hY, ⟨n, hT⟩, ⟨P, S, b, r, H, hC, hK⟩, hP, hN, ⟨vs, hR⟩, ⟨m, w, hL⟩, hS, fo, B, h1, hB, hn⟩ := h
  exact zj_losses (d := 13) hY hC hR h1 hk (fun f v J K Y2 vs2 hY2 hR2 h2 hf hy hn2 => zi_mk hY2 (zc_T_cong hT (zi_fj hf rfl)) (zc_C_cong hC (zi_fj hf rfl)) (zc_K_cong hK (zi_fj hf rfl)) (zc_P_cong hP (zi_fj hf rfl)) (zc_N_cong hN (zi_fj hf rfl)) hR2 (zc_L_cong hL (zi_fj hf rfl)) (zc_S_cong hS (zi_fj hf rfl)) h2 (by omega) (Nat.le_trans hn2 (by omega)))
theorem zi_21 (h : zi_V k I L Y) (hk : k ≤ 600) : zx_Ci l E 20 139 [.ref 3] (I, L, Y) (fun v M1 => zx_lay M1.2.2 ∧ zx_Ci l E 20 237 [.ref 132] M1 (fun w M2 => w = v ∧ zi_V (k + 1) M2.1 M2.2.1 M2.2.2)) := by
  obtain ⟨hY, ⟨n, hT⟩, ⟨P, S, b, r, H, hC, hK⟩, hP, hN, ⟨vs, hR⟩, ⟨m, w, hL⟩, hS, fo, B, h1, hB, hn⟩ := h
  exact zj_river (d := 13) hY hC hR h1 hk (fun f v J K Y2 vs2 hY2 hR2 h2 hf hy hn2 => zi_mk hY2 (zc_T_cong hT (zi_fj hf rfl)) (zc_C_cong hC (zi_fj hf rfl)) (zc_K_cong hK (zi_fj hf rfl)) (zc_P_cong hP (zi_fj hf rfl)) (zc_N_cong hN (zi_fj hf rfl)) hR2 (zc_L_cong hL (zi_fj hf rfl)) (zc_S_cong hS (zi_fj hf rfl)) h2 (by omega) (Nat.le_trans hn2 (by omega)))
theorem zi_22 (h : zi_V k I L Y) (hk : k ≤ 600) {x : Int32} {y : Int32} : zx_Ci l E 20 140 [.ref 3, .int x, .int y] (I, L, Y) (fun v M1 => zx_lay M1.2.2 ∧ zx_Ci l E 20 238 [.ref 132, .int x, .int y] M1 (fun w M2 => w = v ∧ zi_V (k + 1) M2.1 M2.2.1 M2.2.2)) := by
  obtain ⟨hY, ⟨n, hT⟩, ⟨P, S, b, r, H, hC, hK⟩, hP, hN, ⟨vs, hR⟩, ⟨m, w, hL⟩, hS, fo, B, h1, hB, hn⟩ := h
  exact zj_alone (d := 13) hY hC hR h1 hk (fun f v J K Y2 vs2 hY2 hR2 h2 hf hy hn2 => zi_mk hY2 (zc_T_cong hT (zi_fj hf rfl)) (zc_C_cong hC (zi_fj hf rfl)) (zc_K_cong hK (zi_fj hf rfl)) (zc_P_cong hP (zi_fj hf rfl)) (zc_N_cong hN (zi_fj hf rfl)) hR2 (zc_L_cong hL (zi_fj hf rfl)) (zc_S_cong hS (zi_fj hf rfl)) h2 (by omega) (Nat.le_trans hn2 (by omega)))
theorem zi_23 (h : zi_V k I L Y) (hk : k ≤ 600) : zx_Ci l E 20 141 [.ref 3] (I, L, Y) (fun v M1 => zx_lay M1.2.2 ∧ zx_Ci l E 20 240 [.ref 132] M1 (fun w M2 => w = v ∧ zi_V (k + 1) M2.1 M2.2.1 M2.2.2)) := by
  obtain ⟨hY, ⟨n, hT⟩, ⟨P, S, b, r, H, hC, hK⟩, hP, hN, ⟨vs, hR⟩, ⟨m, w, hL⟩, hS, fo, B, h1, hB, hn⟩ := h
  exact zj_states (d := 13) hY hC hR h1 hk (fun f v J K Y2 vs2 hY2 hR2 h2 hf hy hn2 => zi_mk hY2 (zc_T_cong hT (zi_fj hf rfl)) (zc_C_cong hC (zi_fj hf rfl)) (zc_K_cong hK (zi_fj hf rfl)) (zc_P_cong hP (zi_fj hf rfl)) (zc_N_cong hN (zi_fj hf rfl)) hR2 (zc_L_cong hL (zi_fj hf rfl)) (zc_S_cong hS (zi_fj hf rfl)) h2 (by omega) (Nat.le_trans hn2 (by omega)))
theorem zi_24 (h : zi_V k I L Y) (hk : k ≤ 600) {x : Int64} : zx_Ci l E 20 142 [.ref 3, .long x] (I, L, Y) (fun v M1 => zx_lay M1.2.2 ∧ zx_Ci l E 20 241 [.ref 132, .long x] M1 (fun w M2 => w = v ∧ zi_V (k + 1) M2.1 M2.2.1 M2.2.2)) := by
  obtain ⟨hY, ⟨n, hT⟩, ⟨P, S, b, r, H, hC, hK⟩, hP, hN, ⟨vs, hR⟩, ⟨m, w, hL⟩, hS, fo, B, h1, hB, hn⟩ := h
  exact zj_comes (d := 13) hY hC hR h1 hk (fun f v J K Y2 vs2 hY2 hR2 h2 hf hy hn2 => zi_mk hY2 (zc_T_cong hT (zi_fj hf rfl)) (zc_C_cong hC (zi_fj hf rfl)) (zc_K_cong hK (zi_fj hf rfl)) (zc_P_cong hP (zi_fj hf rfl)) (zc_N_cong hN (zi_fj hf rfl)) hR2 (zc_L_cong hL (zi_fj hf rfl)) (zc_S_cong hS (zi_fj hf rfl)) h2 (by omega) (Nat.le_trans hn2 (by omega)))
theorem zi_25 (h : zi_V k I L Y) {x : Int32} {y : Int32} {z : Int32} : zx_Ci l E 20 143 [.ref 3, .int x, .int y, .int z] (I, L, Y) (fun v M1 => zx_lay M1.2.2 ∧ zx_Ci l E 20 246 [.ref 132, .int x, .int y, .int z] M1 (fun w M2 => w = v ∧ zi_V (k + 1) M2.1 M2.2.1 M2.2.2)) := by
  obtain ⟨hY, ⟨n, hT⟩, ⟨P, S, b, r, H, hC, hK⟩, hP, hN, ⟨vs, hR⟩, ⟨m, w, hL⟩, hS, fo, B, h1, hB, hn⟩ := h
  exact zj_names (d := 8) hY hC hP hR hS (fun v I' vs' Y2 hy hY2 hR2 hf => zi_mk hY2 (zc_T_cong hT (zy_frp_on hf rfl rfl)) (zc_C_cong hC (zy_frp_on hf rfl rfl)) (zc_K_cong hK (zy_frp_on hf rfl rfl)) (zc_P_cong hP (zy_frp_on hf rfl rfl)) (zc_N_cong hN (zy_frp_on hf rfl rfl)) hR2 (zc_L_cong hL (zy_frp_on hf rfl rfl)) (zc_S_cong hS (zy_frp_on hf rfl rfl)) (zi_s1p h1 hf rfl hy) (by omega) (by rcases hy with rfl | ⟨p, rfl⟩ <;> exact Nat.le_trans hn (by omega)))
theorem zi_26 (h : zi_V k I L Y) {y : Int32} {z : Int32} : zx_Ci l E 20 144 [.ref 3, .int y, .int z] (I, L, Y) (fun v M1 => zx_lay M1.2.2 ∧ zx_Ci l E 20 247 [.ref 132, .int y, .int z] M1 (fun w M2 => w = v ∧ zi_V (k + 1) M2.1 M2.2.1 M2.2.2)) := by
  obtain ⟨hY, ⟨n, hT⟩, ⟨P, S, b, r, H, hC, hK⟩, hP, hN, ⟨vs, hR⟩, ⟨m, w, hL⟩, hS, fo, B, h1, hB, hn⟩ := h
  exact zj_safe (d := 8) hY hC hP hR hS (fun v I' vs' Y2 hy hY2 hR2 hf => zi_mk hY2 (zc_T_cong hT (zy_frp_on hf rfl rfl)) (zc_C_cong hC (zy_frp_on hf rfl rfl)) (zc_K_cong hK (zy_frp_on hf rfl rfl)) (zc_P_cong hP (zy_frp_on hf rfl rfl)) (zc_N_cong hN (zy_frp_on hf rfl rfl)) hR2 (zc_L_cong hL (zy_frp_on hf rfl rfl)) (zc_S_cong hS (zy_frp_on hf rfl rfl)) (zi_s1p h1 hf rfl hy) (by omega) (by rcases hy with rfl | ⟨p, rfl⟩ <;> exact Nat.le_trans hn (by omega)))
theorem zi_27 (h : zi_V k I L Y) {x : Int32} : zx_Ci l E 20 145 [.ref 3, .int x] (I, L, Y) (fun v M1 => zx_lay M1.2.2 ∧ zx_Ci l E 20 251 [.ref 132, .int x] M1 (fun w M2 => w = v ∧ zi_V (k + 1) M2.1 M2.2.1 M2.2.2)) := by
  obtain ⟨hY, ⟨n, hT⟩, ⟨P, S, b, r, H, hC, hK⟩, hP, hN, ⟨vs, hR⟩, ⟨m, w, hL⟩, hS, fo, B, h1, hB, hn⟩ := h
  exact zi_listen (d := 17) hY hL (fun v I' m' w' hL2 hf => zi_mk hY (zc_T_cong hT (zy_fr_on hf rfl)) (zc_C_cong hC (zy_fr_on hf rfl)) (zc_K_cong hK (zy_fr_on hf rfl)) (zc_P_cong hP (zy_fr_on hf rfl)) (zc_N_cong hN (zy_fr_on hf rfl)) (zc_R_cong hR (zy_fr_on hf rfl)) hL2 (zc_S_cong hS (zy_fr_on hf rfl)) (zi_s1 h1 hf rfl) (by omega) (Nat.le_trans hn (by omega)))
theorem zi_29 (h : zi_V k I L Y) : zx_Ci l E 20 147 [.ref 3] (I, L, Y) (fun v M1 => zx_lay M1.2.2 ∧ zx_Ci l E 20 254 [.ref 132] M1 (fun w M2 => w = v ∧ zi_V (k + 1) M2.1 M2.2.1 M2.2.2)) := by
  obtain ⟨hY, ⟨n, hT⟩, ⟨P, S, b, r, H, hC, hK⟩, hP, hN, ⟨vs, hR⟩, ⟨m, w, hL⟩, hS, fo, B, h1, hB, hn⟩ := h
  exact zj_knows (d := 3) hY hL hR (fun v I' vs' hL2 hR2 hf => zi_mk hY (zc_T_cong hT (zy_fr_on hf rfl)) (zc_C_cong hC (zy_fr_on hf rfl)) (zc_K_cong hK (zy_fr_on hf rfl)) (zc_P_cong hP (zy_fr_on hf rfl)) (zc_N_cong hN (zy_fr_on hf rfl)) hR2 hL2 (zc_S_cong hS (zy_fr_on hf rfl)) (zi_s1 h1 hf rfl) (by omega) (Nat.le_trans hn (by omega)))
theorem zi_30 (h : zi_V k I L Y) : zx_Ci l E 20 148 [.ref 3] (I, L, Y) (fun v M1 => zx_lay M1.2.2 ∧ zx_Ci l E 20 255 [.ref 132] M1 (fun w M2 => w = v ∧ zi_V (k + 1) M2.1 M2.2.1 M2.2.2)) := by
  obtain ⟨hY, ⟨n, hT⟩, ⟨P, S, b, r, H, hC, hK⟩, hP, hN, ⟨vs, hR⟩, ⟨m, w, hL⟩, hS, fo, B, h1, hB, hn⟩ := h
  exact zj_asks (d := 3) hY hL hR (fun v I' vs' hL2 hR2 hf => zi_mk hY (zc_T_cong hT (zy_fr_on hf rfl)) (zc_C_cong hC (zy_fr_on hf rfl)) (zc_K_cong hK (zy_fr_on hf rfl)) (zc_P_cong hP (zy_fr_on hf rfl)) (zc_N_cong hN (zy_fr_on hf rfl)) hR2 hL2 (zc_S_cong hS (zy_fr_on hf rfl)) (zi_s1 h1 hf rfl) (by omega) (Nat.le_trans hn (by omega)))
theorem zi_31 (h : zi_V k I L Y) : zx_Ci l E 20 149 [.ref 3] (I, L, Y) (fun v M1 => zx_lay M1.2.2 ∧ zx_Ci l E 20 256 [.ref 132] M1 (fun w M2 => w = v ∧ zi_V (k + 1) M2.1 M2.2.1 M2.2.2)) := by
  obtain ⟨hY, ⟨n, hT⟩, ⟨P, S, b, r, H, hC, hK⟩, hP, hN, ⟨vs, hR⟩, ⟨m, w, hL⟩, hS, fo, B, h1, hB, hn⟩ := h
  exact zj_forget (d := 20) hY hL (fun v I' m' hL2 hf => zi_mk hY (zc_T_cong hT (zy_fr_on hf rfl)) (zc_C_cong hC (zy_fr_on hf rfl)) (zc_K_cong hK (zy_fr_on hf rfl)) (zc_P_cong hP (zy_fr_on hf rfl)) (zc_N_cong hN (zy_fr_on hf rfl)) (zc_R_cong hR (zy_fr_on hf rfl)) hL2 (zc_S_cong hS (zy_fr_on hf rfl)) (zi_s1 h1 hf rfl) (by omega) (Nat.le_trans hn (by omega)))
theorem zi_32 (h : zi_V k I L Y) {x : Int32} : zx_Ci l E 20 150 [.ref 3, .int x] (I, L, Y) (fun v M1 => zx_lay M1.2.2 ∧ zx_Ci l E 20 257 [.ref 132, .int x] M1 (fun w M2 => w = v ∧ zi_V (k + 1) M2.1 M2.2.1 M2.2.2)) := by
  obtain ⟨hY, ⟨n, hT⟩, ⟨P, S, b, r, H, hC, hK⟩, hP, hN, ⟨vs, hR⟩, ⟨m, w, hL⟩, hS, fo, B, h1, hB, hn⟩ := h
  exact zj_seed (d := 20) hY hN (fun v I' hN2 hf => zi_mk hY (zc_T_cong hT (zy_fr_on hf rfl)) (zc_C_cong hC (zy_fr_on hf rfl)) (zc_K_cong hK (zy_fr_on hf rfl)) (zc_P_cong hP (zy_fr_on hf rfl)) hN2 (zc_R_cong hR (zy_fr_on hf rfl)) (zc_L_cong hL (zy_fr_on hf rfl)) (zc_S_cong hS (zy_fr_on hf rfl)) (zi_s1 h1 hf rfl) (by omega) (Nat.le_trans hn (by omega)))
theorem zi_33 (h : zi_V k I L Y) {x : Int32} : zx_Ci l E 20 151 [.ref 3, .int x] (I, L, Y) (fun v M1 => zx_lay M1.2.2 ∧ zx_Ci l E 20 258 [.ref 132, .int x] M1 (fun w M2 => w = v ∧ zi_V (k + 1) M2.1 M2.2.1 M2.2.2)) := by
  obtain ⟨hY, ⟨n, hT⟩, ⟨P, S, b, r, H, hC, hK⟩, hP, hN, ⟨vs, hR⟩, ⟨m, w, hL⟩, hS, fo, B, h1, hB, hn⟩ := h
  exact zj_keep (d := 18) hY hC hN hK (fun v I' hK2 hf => zi_mk hY (zc_T_cong hT (zy_fr_on hf rfl)) (zc_C_cong hC (zy_fr_on hf rfl)) hK2 (zc_P_cong hP (zy_fr_on hf rfl)) (zc_N_cong hN (zy_fr_on hf rfl)) (zc_R_cong hR (zy_fr_on hf rfl)) (zc_L_cong hL (zy_fr_on hf rfl)) (zc_S_cong hS (zy_fr_on hf rfl)) (zi_s1 h1 hf rfl) (by omega) (Nat.le_trans hn (by omega)))
theorem zi_34 (h : zi_V k I L Y) {x : Int32} : zx_Ci l E 20 152 [.ref 3, .int x] (I, L, Y) (fun v M1 => zx_lay M1.2.2 ∧ zx_Ci l E 20 259 [.ref 132, .int x] M1 (fun w M2 => w = v ∧ zi_V (k + 1) M2.1 M2.2.1 M2.2.2)) := by
  obtain ⟨hY, ⟨n, hT⟩, ⟨P, S, b, r, H, hC, hK⟩, hP, hN, ⟨vs, hR⟩, ⟨m, w, hL⟩, hS, fo, B, h1, hB, hn⟩ := h
  exact zj_again (d := 18) hY hC hN hK (fun v I' S' H' hC2 hN2 hf => zi_mk hY (zc_T_cong hT (zy_fr_on hf rfl)) hC2 (zc_K_cong hK (zy_fr_on hf rfl)) (zc_P_cong hP (zy_fr_on hf rfl)) hN2 (zc_R_cong hR (zy_fr_on hf rfl)) (zc_L_cong hL (zy_fr_on hf rfl)) (zc_S_cong hS (zy_fr_on hf rfl)) (zi_s1 h1 hf rfl) (by omega) (Nat.le_trans hn (by omega)))
theorem zi_35 (h : zi_V k I L Y) {x : Int32} : zx_Ci l E 20 153 [.ref 3, .int x] (I, L, Y) (fun v M1 => zx_lay M1.2.2 ∧ zx_Ci l E 20 262 [.ref 132, .int x] M1 (fun w M2 => w = v ∧ zi_V (k + 1) M2.1 M2.2.1 M2.2.2)) := by
  obtain ⟨hY, ⟨n, hT⟩, ⟨P, S, b, r, H, hC, hK⟩, hP, hN, ⟨vs, hR⟩, ⟨m, w, hL⟩, hS, fo, B, h1, hB, hn⟩ := h
  exact zj_count (d := 18) hY hC hT hR hL (fun v => zi_mk hY (zc_T_cong hT (zy_fr_on (zi_f0 I 0) rfl)) (zc_C_cong hC (zy_fr_on (zi_f0 I 0) rfl)) (zc_K_cong hK (zy_fr_on (zi_f0 I 0) rfl)) (zc_P_cong hP (zy_fr_on (zi_f0 I 0) rfl)) (zc_N_cong hN (zy_fr_on (zi_f0 I 0) rfl)) (zc_R_cong hR (zy_fr_on (zi_f0 I 0) rfl)) (zc_L_cong hL (zy_fr_on (zi_f0 I 0) rfl)) (zc_S_cong hS (zy_fr_on (zi_f0 I 0) rfl)) (zi_s1 h1 (zi_f0 I 0) rfl) (by omega) (Nat.le_trans hn (by omega)))
theorem zi_28 (h : zi_V k I L Y) {x : Int32} {b : Bool} : zx_Ci l E 20 146 [.ref 3, .int x, .int (if b then 1 else 0)] (I, L, Y) (fun v M1 => zx_lay M1.2.2 ∧ zx_Ci l E 20 252 [.ref 132, .int x, .int (if b then 1 else 0)] M1 (fun w M2 => w = v ∧ zi_V (k + 1) M2.1 M2.2.1 M2.2.2)) := by
  obtain ⟨hY, ⟨n, hT⟩, ⟨P, S, b0, r, H, hC, hK⟩, hP, hN, ⟨vs, hR⟩, ⟨m, w, hL⟩, hS, fo, B, h1, hB, hn⟩ := h
  exact zj_hears (d := 16) hY hL hR (fun v I' m' vs' hL2 hR2 hf => zi_mk hY (zc_T_cong hT (zy_fr_on hf rfl)) (zc_C_cong hC (zy_fr_on hf rfl)) (zc_K_cong hK (zy_fr_on hf rfl)) (zc_P_cong hP (zy_fr_on hf rfl)) (zc_N_cong hN (zy_fr_on hf rfl)) hR2 hL2 (zc_S_cong hS (zy_fr_on hf rfl)) (zi_s1 h1 hf rfl) (by omega) (Nat.le_trans hn (by omega)))
end ZIV
