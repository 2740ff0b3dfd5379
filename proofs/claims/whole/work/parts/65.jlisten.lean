/-! ===== listen, hears, knows, asks: class = reference ===== -/
def zw_li : List (Nat × Nat × Nat) := [(117, 2, 4), (118, 0, 40), (119, 0, 40), (6, 1, 2), (7, 0, 12), (132, 0, 2), (132, 36, 38), (133, 0, 12), (151, 0, 40), (152, 0, 40), (132, 44, 47), (153, 0, 9331), (154, 0, 9331), (155, 0, 9331), (156, 0, 9331)]
def zl_hc (I : Nat → Nat → Int32) : Nat → Nat := fun t => zy_n (I 118 t)
def zl_ha (I : Nat → Nat → Int32) : Nat → Bool := fun t => decide (I 119 t ≠ 0)
section YLj
variable {l : Launch} {E : zx_E} {d : Nat} {I : Nat → Nat → Int32} {L : Nat → Nat → Int64} {Y : zx_Y} {Qo : Option Value → zx_M → Prop} {Q : Int32 → zx_M → Prop} {Qv : zx_M → Prop} {hc : Nat → Nat} {ha : Nat → Bool} {m w : Nat}
theorem zl_C_cong {I' : Nat → Nat → Int32} (h : zl_C I hc ha m w) (hf : ∀ a k, zy_in [(117, 2, 4), (118, 0, 40), (119, 0, 40)] a k → I' a k = I a k) : zl_C I' hc ha m w := by
  obtain ⟨⟨m1, m2⟩, ⟨w1, w2, w3⟩, hh⟩ := h
  refine ⟨⟨m1, ?_⟩, ⟨w1, w2, ?_⟩, fun t ht => ?_⟩
  · rw [hf 117 2 (zy_in_at 0 117 2 4 2 rfl (by omega) (by omega))]; exact m2
  · rw [hf 117 3 (zy_in_at 0 117 2 4 3 rfl (by omega) (by omega))]; exact w3
  · rw [hf 118 t (zy_in_at 1 118 0 40 t rfl (by omega) (by omega)), hf 119 t (zy_in_at 2 119 0 40 t rfl (by omega) (by omega))]; exact hh t ht
theorem zl_D_cong {I' : Nat → Nat → Int32} (h : zl_D I hc ha m w) (hf : ∀ a k, zy_in [(132, 36, 38), (151, 0, 40), (152, 0, 40)] a k → I' a k = I a k) : zl_D I' hc ha m w := by
  obtain ⟨⟨m1, m2⟩, ⟨w1, w2, w3⟩, hh⟩ := h
  refine ⟨⟨m1, ?_⟩, ⟨w1, w2, ?_⟩, fun t ht => ?_⟩
  · rw [hf 132 37 (zy_in_at 0 132 36 38 37 rfl (by omega) (by omega))]; exact m2
  · rw [hf 132 36 (zy_in_at 0 132 36 38 36 rfl (by omega) (by omega))]; exact w3
  · rw [hf 151 t (zy_in_at 1 151 0 40 t rfl (by omega) (by omega)), hf 152 t (zy_in_at 2 152 0 40 t rfl (by omega) (by omega))]; exact hh t ht
theorem zl_of_L (h : zc_L I m w) : zl_C I (zl_hc I) (zl_ha I) m w ∧ zl_D I (zl_hc I) (zl_ha I) m w ∧ ∀ t, t < m → zl_hc I t ≠ 0 ∧ zy_dig (zl_hc I t) = true := by
  obtain ⟨⟨m1, m2, m3⟩, ⟨w1, w2, w3, w4⟩, hh⟩ := h
  have key : ∀ t, t < m → I 118 t = nI (zl_hc I t) ∧ zl_hc I t < 5764801 ∧ I 119 t = (if zl_ha I t then 1 else 0) ∧ zl_hc I t ≠ 0 ∧ zy_dig (zl_hc I t) = true := by
    intro t ht
    obtain ⟨a1, a2, a3, a4, a5⟩ := hh t ht
    obtain ⟨b1, b2, b3⟩ := zy_is_n a3
    have e : zl_hc I t = zy_n (I 118 t) := rfl
    rw [← e] at b1 b2 b3
    refine ⟨b1, b2, ?_, fun q => a4 (by rw [b1, q]; rfl), b3⟩
    have e2 : zl_ha I t = decide (I 119 t ≠ 0) := rfl
    rcases a5 with z | z
    · rw [e2, z]; decide
    · rw [e2, z]; decide
  refine ⟨⟨⟨m1, m2⟩, ⟨w1, w2, w3⟩, fun t ht => ⟨(key t ht).1, (key t ht).2.1, (key t ht).2.2.1⟩⟩, ⟨⟨m1, m3⟩, ⟨w1, w2, w4⟩, fun t ht => ?_⟩, fun t ht => ⟨(key t ht).2.2.2.1, (key t ht).2.2.2.2⟩⟩
  obtain ⟨a1, a2, -⟩ := hh t ht
  rw [a1, a2]
  exact ⟨(key t ht).1, (key t ht).2.1, (key t ht).2.2.1⟩
theorem zj_listen (hY : zx_lay Y) (hL : zc_L I m w) {x : Int32} (hq : ∀ v I' m' w', zc_L I' m' w' → zy_fr zw_li I I' → Q v (I', L, Y)) :
    zx_Ci l E (d + 3) 145 [.ref 3, .int x] (I, L, Y) (fun v M1 => zx_lay M1.2.2 ∧ zx_Ci l E (d + 3) 251 [.ref 132, .int x] M1 (fun w M2 => w = v ∧ Q v M2)) := by
  have e1 : (1 : Int64).toInt = 1 := by decide
  have e6 : (6 : Int64).toInt = 6 := by decide
  have no : ¬ (1 ≤ x.toInt ∧ x.toInt ≤ 6) → zx_Ci l E (d + 3) 251 [.ref 132, .int x] (I, L, Y) (fun w M2 => w = -1 ∧ Q (-1) M2) := fun h => by
    refine sg_251_0 hY _ (zy_167i hY (b := decide (1 ≤ x.toInt ∧ x.toInt ≤ 6)) (by rw [e1, e6]) ⟨hY, fun h2 => ?_, fun _ => ⟨_, rfl, rfl, hq _ _ m w (zc_L_cong hL (zy_fr_on zy_thr_fr (by decide))) (zy_fr_mono zy_thr_fr (by decide))⟩⟩)
    rw [zy_b1, decide_eq_true_eq] at h2; exact absurd h2 h
  have i1 : (1 : Int32).toInt = 1 := by decide
  have i6 : (6 : Int32).toInt = 6 := by decide
  refine sg_145_0 hY _ ⟨fun h => ⟨_, rfl, hY, no ?_⟩, fun h => ⟨fun h2 => ?_, fun h2 => ⟨_, rfl, hY, no ?_⟩⟩⟩
  · rw [Int32.lt_iff_toInt_lt, i1] at h; omega
  · rw [Int32.lt_iff_toInt_lt, i1] at h
    rw [Int32.le_iff_toInt_le, i6] at h2
    obtain ⟨v, hv, rfl⟩ := nI_of (x := x) (fun q => by rw [Int32.lt_iff_toInt_lt, zy_i0] at q; omega)
    rw [nI_toInt hv] at h h2
    have v1 : 1 ≤ v := by omega
    have v6 : v ≤ 6 := by omega
    refine zy_c37 (I := zx_u2 (zx_u2 I 117 3 (nI v)) 117 2 0) hY v6 v1 (by rw [zy_u2_nk (by omega), zy_u2_self]) ⟨hY, _, rfl, hY, ?_⟩
    refine sg_251_0 hY _ (zy_167i hY (b := true) (by rw [e1, e6, nI_toInt hv, decide_eq_true (by omega)]) ⟨hY, fun _ => ?_, fun h => absurd h (by decide)⟩)
    generalize hI2 : zx_u2 (zx_u2 (zx_u2 (zx_u2 (zx_u2 I 117 3 (nI v)) 117 2 0) 132 0 0) 132 36 (nI v)) 132 37 0 = I2
    have fr2 : zy_fr zw_li I I2 := by
      rw [← hI2]
      exact zy_fr_u2 (zy_fr_u2 (zy_fr_u2 (zy_fr_u2 (zy_fr_u2 (zy_fr_rf _ _) (zy_in_at 0 117 2 4 3 rfl (by omega) (by omega))) (zy_in_at 0 117 2 4 2 rfl (by omega) (by omega))) (zy_in_at 5 132 0 2 0 rfl (by omega) (by omega))) (zy_in_at 6 132 36 38 36 rfl (by omega) (by omega))) (zy_in_at 6 132 36 38 37 rfl (by omega) (by omega))
    have hL2 : zc_L I2 0 v := by
      rw [← hI2]
      refine ⟨⟨Nat.zero_le _, ?_, ?_⟩, ⟨v1, v6, ?_, ?_⟩, fun t ht => by omega⟩
      · simp [zx_u2, nI_0]
      · simp [zx_u2, nI_0]
      · simp [zx_u2]
      · simp [zx_u2]
    obtain ⟨-, hD, -⟩ := zl_of_L hL2
    have hN := (zl_of5 v6 v1).1
    have hlen : (zl_fits (zl_hc I2) (zl_ha I2) 0 v).length = zl_of v 5 := zl_F_all _ (fun i _ => rfl)
    show zx_Cv l E (d + 2) 249 [.ref 132] (I2, L, Y) _
    refine zy_249 hY hD ⟨hY, _, rfl, ?_⟩
    have frW := zl_W_fr (I := I2) (F := zl_fits (zl_hc I2) (zl_ha I2) 0 v) (g := zl_v (zl_hc I2) (zl_ha I2) 0) (by omega)
    refine ⟨by dsimp only; rw [zl_W_44, hlen], hq _ _ 0 v (zc_L_cong hL2 (zy_fr_on frW (by decide))) (zy_fr_tr fr2 (zy_fr_mono frW (by decide)))⟩
  · rw [Int32.le_iff_toInt_le, i6] at h2; omega
theorem zl_nar {b : Bool} : vp_nar .boolean (if b then 1 else 0) = if b then 1 else 0 := by cases b <;> decide
theorem zj_hears (hY : zx_lay Y) {vs : List Int32} (hL : zc_L I m w) (hR : zc_R I vs) {x : Int32} {b : Bool} (hq : ∀ v I' m' vs', zc_L I' m' w → zc_R I' vs' → zy_fr zw_li I I' → Q v (I', L, Y)) :
    zx_Ci l E (d + 4) 146 [.ref 3, .int x, .int (if b then 1 else 0)] (I, L, Y) (fun v M1 => zx_lay M1.2.2 ∧ zx_Ci l E (d + 4) 252 [.ref 132, .int x, .int (if b then 1 else 0)] M1 (fun w M2 => w = v ∧ Q v M2)) := by
  obtain ⟨⟨m1, m2, m3⟩, ⟨w1, w2, w3, w4⟩, hh⟩ := id hL
  have keep : ∀ J, zy_fr zy_thr I J → zc_L J m w ∧ zc_R J vs ∧ zy_fr zw_li I J := fun J hJ => ⟨zc_L_cong hL (zy_fr_on hJ (by decide)), zc_R_cong hR (zy_fr_on hJ (by decide)), zy_fr_mono hJ (by decide)⟩
  have kq : ∀ v, Q v (zx_u2 I 132 0 0, L, Y) := fun v => by
    obtain ⟨a1, a2, a3⟩ := keep _ (zy_thr_fr (v := 0))
    exact hq _ _ m vs a1 a2 a3
  have hno : zy_is x = false ∨ x = 0 → zx_Ci l E (d + 4) 252 [.ref 132, .int x, .int (if b then 1 else 0)] (I, L, Y) (fun w M2 => w = -1 ∧ Q (-1) M2) := fun h => by
    refine sg_252_0 hY _ _ (zy_192 hY ⟨hY, fun h2 => ?_, fun _ => ⟨_, rfl, rfl, kq _⟩⟩)
    have e : (zy_is x && decide (x ≠ 0)) = false := by
      rcases h with h | h
      · rw [h]; rfl
      · rw [h]; simp
    rw [e] at h2
    exact absurd rfl h2
  refine sg_146_0 hY _ _ ⟨fun h1 => ⟨_, rfl, hY, hno (Or.inr h1)⟩, fun h1 => zy_160 hY ⟨hY, fun h2 => ?_, fun h2 => ?_⟩⟩
  · rw [zy_b1] at h2
    have e192 : (zy_is x && decide (x ≠ 0)) = true := by rw [h2, decide_eq_true h1]; rfl
    by_cases h40 : m = 40
    · -- forty were heard
      refine sg_38_0 (I := I) (L := L) hY _ _ ⟨fun h => ?_, fun _ => ⟨_, rfl, hY, fun h => absurd rfl h, fun _ => ⟨_, rfl, hY, ?_⟩⟩⟩
      · rw [m2, h40] at h; exact absurd h (by decide)
      · refine sg_252_0 hY _ _ (zy_192 hY ⟨hY, fun _ => ⟨fun h => ?_, fun _ => ⟨_, rfl, rfl, kq _⟩⟩, fun h => ?_⟩)
        · have h : ¬ zx_u2 I 132 0 0 132 37 = 40 := h
          rw [zy_u2_nk (by omega), m3, h40] at h; exact absurd rfl h
        · rw [e192] at h; exact absurd h (by decide)
    · have hv := vp_in_nI (n := m) (N := 40) (by omega) (by omega)
      -- it is noted on both sides
      generalize hI1 : zx_u2 (zx_u2 (zx_u2 I 118 m x) 119 m (if b then 1 else 0)) 117 2 (nI (m + 1)) = I1
      generalize hI2 : zx_u2 (zx_u2 (zx_u2 (zx_u2 I1 132 0 0) 151 m x) 152 m (if b then 1 else 0)) 132 37 (nI (m + 1)) = I2
      have fr1 : zy_fr [(117, 2, 4), (118, 0, 40), (119, 0, 40)] I I1 := by
        rw [← hI1]
        exact zy_fr_u2 (zy_fr_u2 (zy_fr_u2 (zy_fr_rf _ _) (zy_in_at 1 118 0 40 m rfl (by omega) (by omega))) (zy_in_at 2 119 0 40 m rfl (by omega) (by omega))) (zy_in_at 0 117 2 4 2 rfl (by omega) (by omega))
      have fr12 : zy_fr [(132, 0, 1), (132, 36, 38), (151, 0, 40), (152, 0, 40)] I1 I2 := by
        rw [← hI2]
        exact zy_fr_u2 (zy_fr_u2 (zy_fr_u2 (zy_fr_u2 (zy_fr_rf _ _) (zy_in_at 0 132 0 1 0 rfl (by omega) (by omega))) (zy_in_at 2 151 0 40 m rfl (by omega) (by omega))) (zy_in_at 3 152 0 40 m rfl (by omega) (by omega))) (zy_in_at 1 132 36 38 37 rfl (by omega) (by omega))
      have hL2 : zc_L I2 (m + 1) w := by
        refine ⟨⟨by omega, ?_, ?_⟩, ⟨w1, w2, ?_, ?_⟩, fun t ht => ?_⟩
        · rw [zy_fr_at fr12 117 2 (by decide), ← hI1, zy_u2_self]
        · rw [← hI2, zy_u2_self]
        · rw [zy_fr_at fr12 117 3 (by decide), ← hI1, zy_u2_nk (by omega), zy_u2_na (by omega), zy_u2_na (by omega)]; exact w3
        · rw [← hI2, zy_u2_nk (by omega), zy_u2_na (by omega), zy_u2_na (by omega), zy_u2_nk (by omega), zy_fr_at fr1 132 36 (by decide)]; exact w4
        · have e118 : I2 118 t = if t = m then x else I 118 t := by
            rw [zy_fr_row fr12 118 40 (by decide) (by omega), ← hI1, zy_u2_na (by omega), zy_u2_na (by omega)]
            by_cases e : t = m
            · rw [if_pos e, e, zy_u2_self]
            · rw [if_neg e, zy_u2_nk e]
          have e119 : I2 119 t = if t = m then (if b then 1 else 0) else I 119 t := by
            rw [zy_fr_row fr12 119 40 (by decide) (by omega), ← hI1, zy_u2_na (by omega)]
            by_cases e : t = m
            · rw [if_pos e, e, zy_u2_self]
            · rw [if_neg e, zy_u2_nk e, zy_u2_na (by omega)]
          have e151 : I2 151 t = if t = m then x else I 151 t := by
            rw [← hI2, zy_u2_na (by omega), zy_u2_na (by omega)]
            by_cases e : t = m
            · rw [if_pos e, e, zy_u2_self]
            · rw [if_neg e, zy_u2_nk e, zy_u2_na (by omega), zy_fr_row fr1 151 40 (by decide) (by omega)]
          have e152 : I2 152 t = if t = m then (if b then 1 else 0) else I 152 t := by
            rw [← hI2, zy_u2_na (by omega)]
            by_cases e : t = m
            · rw [if_pos e, e, zy_u2_self]
            · rw [if_neg e, zy_u2_nk e, zy_u2_na (by omega), zy_u2_na (by omega), zy_fr_row fr1 152 40 (by decide) (by omega)]
          rw [e118, e119, e151, e152]
          by_cases e : t = m
          · rw [if_pos e, if_pos e, if_pos e, if_pos e]
            exact ⟨rfl, rfl, h2, h1, by cases b <;> simp⟩
          · rw [if_neg e, if_neg e, if_neg e, if_neg e]
            exact hh t (by omega)
      obtain ⟨hC2, hD2, hn2⟩ := zl_of_L hL2
      have hC1 : zl_C I1 (zl_hc I2) (zl_ha I2) (m + 1) w := zl_C_cong hC2 (fun a k hk => (zy_fr_on fr12 (by decide) a k hk).symm)
      generalize zl_hc I2 = hc at *
      generalize zl_ha I2 = ha at *
      have hlen : (zl_fits hc ha (m + 1) w).length ≤ 9330 := by
        have := (zl_F_ok (w := w) (p := zl_p hc ha (m + 1)) (zl_of w 5)).1
        have := (zl_of5 w2 w1).1
        unfold zl_fits; omega
      refine sg_38_0 (I := I) (L := L) hY _ _ ⟨fun _ => ?_, fun h => ?_⟩
      · rw [m2, nI_clamp (by omega), zl_nar, nI_1, hI1]
        refine ⟨hv, hv, _, rfl, hY, fun _ => ?_, fun h => absurd h (by decide)⟩
        refine zy_c39 hY hC1 hn2 ⟨hY, zy_81 hY ⟨hY, ?_⟩⟩
        -- the reference, behind a row
        have model : ∀ (ws : List Int32) (v : Int32), ws.length ≤ 1 → v = nI (zl_fits hc ha (m + 1) w).length → ws = (if (zl_fits hc ha (m + 1) w).length = 0 then [] else [nI ((zl_fits hc ha (m + 1) w).getD 0 0)]) → zx_Ci l E (d + 4) 252 [.ref 132, .int x, .int (if b then 1 else 0)] (zy_tell I1 ws, L, Y) (fun w M2 => w = v ∧ Q v M2) := by
          intro ws v hws hv2 hwse
          refine sg_252_0 hY _ _ (zy_192 hY ⟨hY, fun _ => ⟨fun _ => ?_, fun h => ?_⟩, fun h => ?_⟩)
          · have e37 : zx_u2 (zy_tell I1 ws) 132 0 0 132 37 = nI m := by rw [zy_u2_nk (by omega), zy_tell_el (by omega), zy_fr_at fr1 132 37 (by decide)]; exact m3
            dsimp only
            rw [e37, nI_clamp (by omega), zl_nar, nI_1]
            refine ⟨hv, hv, ?_⟩
            have eT : zx_u2 (zx_u2 (zx_u2 (zx_u2 (zy_tell I1 ws) 132 0 0) 151 m x) 152 m (if b then 1 else 0)) 132 37 (nI (m + 1)) = zy_tell I2 ws := by
              rw [← hI2]
              funext a k
              unfold zy_tell zx_u2
              by_cases h : (a = 6 ∧ k = 1) ∨ (a = 7 ∧ k < ws.length)
              · rcases h with h | h
                · simp [h]
                · simp [h]
              · have h6 : ¬ (a = 6 ∧ k = 1) := fun q => h (Or.inl q)
                have h7 : ¬ (a = 7 ∧ k < ws.length) := fun q => h (Or.inr q)
                simp only [if_neg h6, if_neg h7]
            rw [eT]
            have frT : zy_fr zw_R I2 (zy_tell I2 ws) := zy_tell_fr (zy_fr_rf _ _) (by omega)
            refine zy_249 hY (zl_D_cong hD2 (zy_fr_on frT (by decide))) ⟨hY, ?_⟩
            have frW := zl_W_fr (I := zy_tell I2 ws) (F := zl_fits hc ha (m + 1) w) (g := zl_v hc ha (m + 1)) (by omega)
            have w153 : zl_W (zy_tell I2 ws) (zl_fits hc ha (m + 1) w) (zl_v hc ha (m + 1)) 153 0 = if (zl_fits hc ha (m + 1) w).length = 0 then zy_tell I2 ws 153 0 else nI ((zl_fits hc ha (m + 1) w).getD 0 0) := by
              rw [zl_W_ev, if_neg (by omega)]
              by_cases z : (zl_fits hc ha (m + 1) w).length = 0
              · rw [if_neg (by omega), if_neg (by omega), if_pos z]
              · rw [if_pos ⟨rfl, by omega⟩, if_neg z]
            have fin : ∀ us : List Int32, us = ws → zc_L (zy_ent (zl_W (zy_tell I2 ws) (zl_fits hc ha (m + 1) w) (zl_v hc ha (m + 1))) us) (m + 1) w ∧ zc_R (zy_ent (zl_W (zy_tell I2 ws) (zl_fits hc ha (m + 1) w) (zl_v hc ha (m + 1))) us) us ∧ zy_fr zw_li I (zy_ent (zl_W (zy_tell I2 ws) (zl_fits hc ha (m + 1) w) (zl_v hc ha (m + 1))) us) := by
              rintro us rfl
              have frE : zy_fr zw_R (zl_W (zy_tell I2 us) (zl_fits hc ha (m + 1) w) (zl_v hc ha (m + 1))) (zy_ent (zl_W (zy_tell I2 us) (zl_fits hc ha (m + 1) w) (zl_v hc ha (m + 1))) us) := zy_ent_fr (zy_fr_rf _ _) (by omega)
              have frA : zy_fr (zw_R ++ zw_ln) I2 (zy_ent (zl_W (zy_tell I2 us) (zl_fits hc ha (m + 1) w) (zl_v hc ha (m + 1))) us) := zy_fr_tr (zy_fr_tr (zy_fr_mono frT (by decide)) (zy_fr_mono frW (by decide))) (zy_fr_mono frE (by decide))
              refine ⟨zc_L_cong hL2 (zy_fr_on frA (by decide)), zc_R_tell (I := I2) (by omega) (fun a k hak => zl_W_el (by omega)), zy_fr_tr (zy_fr_tr (zy_fr_mono fr1 (by decide)) (zy_fr_mono fr12 (by decide))) (zy_fr_mono frA (by decide))⟩
            dsimp only
            rw [zl_W_44, zy_le0 (by omega), zy_ent_nil, w153]
            refine ⟨fun h => ⟨_, rfl, hv2.symm, ?_⟩, fun h => ?_⟩
            · rw [if_pos h] at hwse
              obtain ⟨f1, f2, f3⟩ := fin [] hwse.symm
              exact hq _ _ (m + 1) [] f1 f2 f3
            · rw [if_neg h]
              rw [if_neg h] at hwse
              refine zy_170 hY (by simp) ⟨hY, _, rfl, ?_, ?_⟩
              · dsimp only
                rw [zy_ent_el (by omega), zl_W_44]; exact hv2.symm
              · obtain ⟨f1, f2, f3⟩ := fin _ hwse.symm
                exact hq _ _ (m + 1) _ f1 f2 f3
          · have h : zx_u2 (zy_tell I1 ws) 132 0 0 132 37 = 40 := h
            rw [zy_u2_nk (by omega), zy_tell_el (by omega), zy_fr_at fr1 132 37 (by decide), m3] at h
            exact absurd ((nI_eq (b := 40) (by omega) (by omega)).mp h) h40
          · rw [e192] at h; exact absurd h (by decide)
        rw [zy_le0 (by omega)]
        refine ⟨fun h => ⟨_, rfl, hY, model [] _ (by simp) rfl (by rw [if_pos h])⟩, fun h => ?_⟩
        have hCt : zl_C (zy_tell I1 []) hc ha (m + 1) w := zl_C_cong hC1 (zy_fr_on (zy_tell_fr (vs := []) (zy_fr_rf zw_R _) (by simp)) (by decide))
        refine zy_c40 hY hCt hn2 (fun q => h (by rw [q]; rfl)) ⟨hY, zy_82 hY (by simp) ⟨hY, _, rfl, hY, model _ _ (by simp) rfl (by rw [if_neg h]; rfl)⟩⟩
      · rw [m2] at h
        exact absurd ((nI_ltI (b := 40) (by omega) (by omega)).mpr (by omega)) h
  · rw [zy_b0] at h2
    exact ⟨_, rfl, hY, hno (Or.inl h2)⟩
theorem zj_knows (hY : zx_lay Y) {vs : List Int32} (hL : zc_L I m w) (hR : zc_R I vs) (hq : ∀ v I' vs', zc_L I' m w → zc_R I' vs' → zy_fr zw_li I I' → Q v (I', L, Y)) :
    zx_Ci l E (d + 17) 147 [.ref 3] (I, L, Y) (fun v M1 => zx_lay M1.2.2 ∧ zx_Ci l E (d + 17) 254 [.ref 132] M1 (fun w M2 => w = v ∧ Q v M2)) := by
  obtain ⟨⟨m1, m2, m3⟩, ⟨w1, w2, w3, w4⟩, hh⟩ := id hL
  obtain ⟨hC, hD, hn⟩ := zl_of_L hL
  generalize zl_hc I = hc at *
  generalize zl_ha I = ha at *
  obtain ⟨v1, v2, v3, v4⟩ := zl_V_ok (hc := hc) (ha := ha) (m := m) w1 w2
  refine sg_147_0 hY (zy_c39 hY hC hn ⟨hY, ?_⟩)
  rw [← v1, zy_eq0 (by omega)]
  refine ⟨fun h => zy_81 hY ⟨hY, ?_⟩, fun h => ⟨_, rfl, hY, ?_⟩⟩
  · have hCt : zl_C (zy_tell I []) hc ha m w := zl_C_cong hC (zy_fr_on (zy_tell_fr (vs := []) (zy_fr_rf zw_R _) (by simp)) (by decide))
    have hF : zl_fits hc ha m w ≠ [] := fun q => h (by rw [v1, q]; rfl)
    -- the first that fits, and what it came to
    have hmem : (zl_fits hc ha m w).getD 0 0 ∈ zl_fits hc ha m w := by
      cases hz : zl_fits hc ha m w with
      | nil => exact absurd hz hF
      | cons a b => exact List.mem_cons_self
    obtain ⟨i, i1, i2, i3⟩ := ((zl_F_ok (w := w) (p := zl_p hc ha m) (zl_of w 5)).2 _).mp hmem
    have b4 := (zl_It_ok w2 w1 i1).2.2.2
    rw [i2] at b4
    have eV : (zl_V hc ha m w).getD 0 0 = zl_v hc ha m ((zl_fits hc ha m w).getD 0 0) := by
      unfold zl_V
      cases hz : zl_fits hc ha m w with
      | nil => exact absurd hz hF
      | cons a b => rfl
    refine zy_c40 hY hCt hn hF ⟨hY, zy_c41 hY hCt (by omega) ⟨hY, ?_⟩⟩
    have e1 : zo_be (zl_hb hc ha m 0 ((zl_fits hc ha m w).getD 0 0)) = nI ((zl_V hc ha m w).getD 0 0) := by
      rw [eV]
      unfold zl_v
      unfold zl_p at i3
      cases hz : zl_hb hc ha m 0 ((zl_fits hc ha m w).getD 0 0) with
      | none => rw [hz] at i3; cases i3
      | some u => rfl
    rw [e1]
    refine zy_82 hY (by simp) ⟨hY, zy_82 hY (by simp) ⟨hY, _, rfl, hY, ?_⟩⟩
    show zx_Ci l E (d + 17) 254 [.ref 132] (zy_tell I [nI ((zl_V hc ha m w).getD 0 0), 1], L, Y) _
    generalize hws : [nI ((zl_V hc ha m w).getD 0 0), (1 : Int32)] = ws
    have hwl : ws.length = 2 := by rw [← hws]; rfl
    have frT : zy_fr zw_R I (zx_u2 (zy_tell I ws) 132 0 0) := zy_fr_u2 (zy_tell_fr (zy_fr_rf _ _) (by omega)) zw_R_0
    refine zy_254 (I := zy_tell I ws) hY (zl_D_cong hD (zy_fr_on frT (by decide))) (fun h0 => absurd h0 h) (fun _ J hJ => ⟨rfl, ?_⟩)
    rw [hws]
    have frE : zy_fr zw_R J (zy_ent J ws) := zy_ent_fr (zy_fr_rf _ _) (by omega)
    have frA : zy_fr (zw_R ++ zw_ln) I (zy_ent J ws) := zy_fr_tr (zy_fr_tr (zy_fr_mono frT (by decide)) (zy_fr_mono hJ (by decide))) (zy_fr_mono frE (by decide))
    refine hq _ _ ws (zc_L_cong hL (zy_fr_on frA (by decide))) (zc_R_tell (I := I) (by omega) (fun a k hak => ?_)) (zy_fr_mono frA (by decide))
    have : ¬ zy_in zw_ln a k := fun ⟨z, hz, e1, _⟩ => by
      simp only [zw_ln, List.mem_cons, List.not_mem_nil, or_false] at hz
      rcases hz with rfl | rfl | rfl | rfl | rfl <;> simp at e1 <;> omega
    rw [hJ a k this, zy_u2_na (by omega)]
  · have frT : zy_fr zy_thr I (zx_u2 I 132 0 0) := zy_thr_fr
    refine zy_254 hY (zl_D_cong hD (zy_fr_on frT (by decide))) (fun _ J hJ => ⟨rfl, ?_⟩) (fun h0 => by omega)
    have frA : zy_fr ([(132, 0, 1)] ++ zw_ln) I J := zy_fr_tr (zy_fr_mono frT (by decide)) (zy_fr_mono hJ (by decide))
    exact hq _ _ vs (zc_L_cong hL (zy_fr_on frA (by decide))) (zc_R_cong hR (zy_fr_on frA (by decide))) (zy_fr_mono frA (by decide))
theorem zj_asks (hY : zx_lay Y) {vs : List Int32} (hL : zc_L I m w) (hR : zc_R I vs) (hq : ∀ v I' vs', zc_L I' m w → zc_R I' vs' → zy_fr zw_li I I' → Q v (I', L, Y)) :
    zx_Ci l E (d + 17) 148 [.ref 3] (I, L, Y) (fun v M1 => zx_lay M1.2.2 ∧ zx_Ci l E (d + 17) 255 [.ref 132] M1 (fun w M2 => w = v ∧ Q v M2)) := by
  obtain ⟨⟨m1, m2, m3⟩, ⟨w1, w2, w3, w4⟩, hh⟩ := id hL
  obtain ⟨hC, hD, hn⟩ := zl_of_L hL
  generalize zl_hc I = hc at *
  generalize zl_ha I = ha at *
  obtain ⟨v1, v2, v3, v4⟩ := zl_V_ok (hc := hc) (ha := ha) (m := m) w1 w2
  -- two that fit: nobody answered, what they came to is what they are
  have two : 2 ≤ (zl_V hc ha m w).length → (zl_V hc ha m w).getD 0 0 = (zl_fits hc ha m w).getD 0 0 ∧ 0 < (zl_V hc ha m w).getD 0 0 := fun h2 => by
    rcases (zl_fits_v (hc := hc) (ha := ha) (m := m) w2 w1).2 with e | e | e
    · omega
    · have e : zl_V hc ha m w = zl_fits hc ha m w := e
      rw [e]
      have hmem : (zl_fits hc ha m w).getD 0 0 ∈ zl_fits hc ha m w := by
        rw [List.getD_eq_getElem?_getD, List.getElem?_eq_getElem (show 0 < (zl_fits hc ha m w).length by omega)]; exact List.getElem_mem _
      obtain ⟨i, i1, i2, i3⟩ := ((zl_F_ok (w := w) (p := zl_p hc ha m) (zl_of w 5)).2 _).mp hmem
      refine ⟨rfl, ?_⟩
      rw [← i2]
      exact Nat.pos_of_ne_zero (zl_It_ok w2 w1 i1).1
    · omega
  refine sg_148_0 hY (zy_c39 hY hC hn ⟨hY, ?_⟩)
  rw [← v1, zy_eq0 (by omega)]
  refine ⟨fun h => zy_81 hY ⟨hY, ?_⟩, fun h => ⟨_, rfl, hY, ?_⟩⟩
  · have ep1 : nI (zl_V hc ha m w).length - 1 = nI ((zl_V hc ha m w).length - 1) := pk_sub (a := (zl_V hc ha m w).length) (b := 1) (by omega)
    have em : (if (1 : Int32) < nI (zl_V hc ha m w).length - 1 then nI (zl_V hc ha m w).length - 1 else 1) = nI (max 1 ((zl_V hc ha m w).length - 1)) := by
      rw [ep1]
      by_cases z : 1 < (zl_V hc ha m w).length - 1
      · rw [if_pos (show (1 : Int32) < nI ((zl_V hc ha m w).length - 1) from (nI_ltI (a := 1) (by omega) (by omega)).mpr z), show max 1 ((zl_V hc ha m w).length - 1) = (zl_V hc ha m w).length - 1 by omega]
      · rw [if_neg (show ¬ (1 : Int32) < nI ((zl_V hc ha m w).length - 1) from fun q => z ((nI_ltI (a := 1) (by omega) (by omega)).mp q)), show max 1 ((zl_V hc ha m w).length - 1) = 1 by omega]; rfl
    rw [em]
    refine zy_82 hY (by simp) ⟨hY, ?_⟩
    show (¬ nI (zl_V hc ha m w).length = 1 → zx_Ci l E (d + 16) 40 [.ref 117] (zy_tell I [nI (max 1 ((zl_V hc ha m w).length - 1))], L, Y) _) ∧ (nI (zl_V hc ha m w).length = 1 → _)
    generalize hws : [nI (max 1 ((zl_V hc ha m w).length - 1))] = ws
    have hwl : ws.length = 1 := by rw [← hws]; rfl
    have model : ∀ v : Int32, v = (if (zl_V hc ha m w).length = 1 then 1 else nI ((zl_V hc ha m w).getD 0 0)) → zx_Ci l E (d + 17) 255 [.ref 132] (zy_tell I ws, L, Y) (fun w M2 => w = v ∧ Q v M2) := by
      intro v hv
      have frT : zy_fr zw_R I (zx_u2 (zy_tell I ws) 132 0 0) := zy_fr_u2 (zy_tell_fr (zy_fr_rf _ _) (by omega)) zw_R_0
      refine zy_255 (I := zy_tell I ws) hY (zl_D_cong hD (zy_fr_on frT (by decide))) (fun h2 => (two h2).2) (fun h0 => absurd h0 h) (fun _ J hJ => ⟨hv.symm, ?_⟩)
      rw [hws]
      have frE : zy_fr zw_R J (zy_ent J ws) := zy_ent_fr (zy_fr_rf _ _) (by omega)
      have frA : zy_fr (zw_R ++ zw_ln) I (zy_ent J ws) := zy_fr_tr (zy_fr_tr (zy_fr_mono frT (by decide)) (zy_fr_mono hJ (by decide))) (zy_fr_mono frE (by decide))
      refine hq _ _ ws (zc_L_cong hL (zy_fr_on frA (by decide))) (zc_R_tell (I := I) (by omega) (fun a k hak => ?_)) (zy_fr_mono frA (by decide))
      have : ¬ zy_in zw_ln a k := fun ⟨z, hz, e1, _⟩ => by
        simp only [zw_ln, List.mem_cons, List.not_mem_nil, or_false] at hz
        rcases hz with rfl | rfl | rfl | rfl | rfl <;> simp at e1 <;> omega
      rw [hJ a k this, zy_u2_na (by omega)]
    have e1 : nI (zl_V hc ha m w).length = 1 ↔ (zl_V hc ha m w).length = 1 := nI_eq (b := 1) (by omega) (by omega)
    refine ⟨fun h1 => ?_, fun h1 => ⟨_, rfl, hY, model 1 (by rw [if_pos (e1.mp h1)])⟩⟩
    have hCt : zl_C (zy_tell I ws) hc ha m w := zl_C_cong hC (zy_fr_on (zy_tell_fr (vs := ws) (zy_fr_rf zw_R _) (by omega)) (by decide))
    have n1 : (zl_V hc ha m w).length ≠ 1 := fun q => h1 (e1.mpr q)
    refine zy_c40 hY hCt hn (fun q => h (by rw [v1, q]; rfl)) ⟨hY, _, rfl, hY, model _ ?_⟩
    rw [if_neg n1, (two (by omega)).1]
  · have frT : zy_fr zy_thr I (zx_u2 I 132 0 0) := zy_thr_fr
    refine zy_255 hY (zl_D_cong hD (zy_fr_on frT (by decide))) (fun h2 => (two h2).2) (fun _ J hJ => ⟨rfl, ?_⟩) (fun h0 => by omega)
    have frA : zy_fr ([(132, 0, 1)] ++ zw_ln) I J := zy_fr_tr (zy_fr_mono frT (by decide)) (zy_fr_mono hJ (by decide))
    exact hq _ _ vs (zc_L_cong hL (zy_fr_on frA (by decide))) (zc_R_cong hR (zy_fr_on frA (by decide))) (zy_fr_mono frA (by decide))
end YLj
