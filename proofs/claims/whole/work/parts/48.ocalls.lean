/-! ===== orders: a call, the lists of names ===== -/
section YMx
variable {J X : Nat → Nat → Int32} {a k : Nat} {v : Int32}
theorem zy_mix_ulo (h : a < 132) : zx_u2 (zy_mix J X) a k v = zy_mix (zx_u2 J a k v) X := by
  refine zy_mix_eq (fun b m hb => ?_) (fun b m hb => ?_)
  · unfold zx_u2; rw [zy_mix_lo hb]
  · rw [zy_u2_na (by omega), zy_mix_hi hb]
theorem zy_mix_uhi (h : 132 ≤ a) : zx_u2 (zy_mix X J) a k v = zy_mix X (zx_u2 J a k v) := by
  refine zy_mix_eq (fun b m hb => ?_) (fun b m hb => ?_)
  · rw [zy_u2_na (by omega), zy_mix_lo hb]
  · unfold zx_u2; rw [zy_mix_hi hb]
theorem zy_mix_ilo (h : 132 ≤ a) : zy_mix (zx_u2 J a k v) X = zy_mix J X := zy_mix_eq (fun b m hb => by rw [zy_mix_lo hb, zy_u2_na (by omega)]) (fun b m hb => by rw [zy_mix_hi hb])
theorem zy_mix_ihi (h : a < 132) : zy_mix X (zx_u2 J a k v) = zy_mix X J := zy_mix_eq (fun b m hb => by rw [zy_mix_lo hb]) (fun b m hb => by rw [zy_mix_hi hb, zy_u2_na (by omega)])
theorem zy_u2_sm (h : J a k = v) : zx_u2 J a k v = J := by
  funext x y
  unfold zx_u2
  split
  · rename_i q; rw [q.1, q.2, h]
  · rfl
end YMx
/-- calls made, untils begun, whether it is ended: on both sides -/
def zo_X (J : Nat → Nat → Int32) (c u : Nat) (e : Bool) : Prop := (c ≤ 300 ∧ J 17 7 = nI c ∧ J 132 21 = nI c) ∧ (u ≤ 300 ∧ J 17 10 = nI u ∧ J 132 24 = nI u) ∧ (J 132 22 = J 17 8 ∧ J 132 23 = J 17 9) ∧ J 17 11 = (if e then 1 else 0) ∧ J 132 25 = (if e then 1 else 0)
def zo_K (P b : Nat) (J : Nat → Nat → Int32) : Prop := ∃ S r H, zc_C J P S b r H
def zw_ex : List (Nat × Nat × Nat) := [(17, 7, 12), (21, 0, 10), (132, 15, 16), (132, 21, 26), (143, 0, 10), (8, 5, 9), (9, 0, 10), (10, 0, 10), (12, 0, 60), (13, 0, 60), (132, 0, 1), (132, 10, 11), (134, 0, 10), (135, 0, 10), (136, 0, 10), (138, 0, 60), (139, 0, 60)]
def zw_id : List (Nat × Nat × Nat) := [(132, 0, 1), (132, 15, 16)]
def zw_xx : List (Nat × Nat × Nat) := [(17, 7, 12), (132, 21, 26)]
theorem zo_K_fr {P b : Nat} {W : List (Nat × Nat × Nat)} {J J' : Nat → Nat → Int32} (h : zo_K P b J) (hf : zy_fr W J J') (hd : zy_dis W zr_C = true) : zo_K P b J' := by
  obtain ⟨S, r, H, hC⟩ := h
  exact ⟨S, r, H, zc_C_cong hC (zy_fr_on hf hd)⟩
theorem zo_X_fr {J J' : Nat → Nat → Int32} {c u : Nat} {e : Bool} {W : List (Nat × Nat × Nat)} (h : zo_X J c u e) (hf : zy_fr W J J') (hd : zy_dis W [(17, 7, 12), (132, 21, 26)] = true) : zo_X J' c u e := by
  have g1 : ∀ k, 7 ≤ k → k < 12 → J' 17 k = J 17 k := fun k a b => zy_fr_on hf hd 17 k (zy_in_at 0 17 7 12 k rfl a b)
  have g2 : ∀ k, 21 ≤ k → k < 26 → J' 132 k = J 132 k := fun k a b => zy_fr_on hf hd 132 k (zy_in_at 1 132 21 26 k rfl a b)
  unfold zo_X
  rw [g1 7 (by omega) (by omega), g1 8 (by omega) (by omega), g1 9 (by omega) (by omega), g1 10 (by omega) (by omega), g1 11 (by omega) (by omega), g2 21 (by omega) (by omega), g2 22 (by omega) (by omega), g2 23 (by omega) (by omega), g2 24 (by omega) (by omega), g2 25 (by omega) (by omega)]
  exact h
def zw_mk : List (Nat × Nat × Nat) := [(17, 7, 12), (132, 21, 26), (8, 5, 9), (9, 0, 10), (10, 0, 10), (12, 0, 60), (13, 0, 60), (132, 0, 1), (132, 10, 11), (134, 0, 10), (135, 0, 10), (136, 0, 10), (138, 0, 60), (139, 0, 60)]
theorem zs_made {J : Nat → Nat → Int32} {P b c u cd : Nat} (hK : zo_K P b J) (hX : zo_X J c u false) (hcd : cd < 5764801) (h0 : cd ≠ 0) (hdig : zy_dig cd = true) :
    ∃ (J' : Nat → Nat → Int32) (c' : Nat) (e' : Bool), zo_K P b J' ∧ zo_X J' c' u e' ∧ zy_fr zw_mk J J' ∧ J' 132 15 = J 132 15 ∧ c ≤ c' ∧ (c' = c → e' = true) ∧
    (∀ (l : Launch) (E : zx_E) (d : Nat) (X : Nat → Nat → Int32) (L : Nat → Nat → Int64) (Y : zx_Y) (Q : zx_M → Prop), zx_lay Y → Q (zy_mix J' X, L, Y) → zx_Cv l E (d + 3) 68 [.ref 17, .int (nI cd)] (zy_mix J X, L, Y) Q) ∧
    (∀ (l : Launch) (E : zx_E) (d : Nat) (X : Nat → Nat → Int32) (L : Nat → Nat → Int64) (Y : zx_Y) (Q : zx_M → Prop), zx_lay Y → Q (zy_mix X J', L, Y) → zx_Cv l E (d + 3) 201 [.ref 132, .int (nI cd)] (zy_mix X J, L, Y) Q) := by
  obtain ⟨⟨x1, x2, x3⟩, ⟨y1, y2, y3⟩, ⟨z1, z2⟩, w1, w2⟩ := hX
  have w1 : J 17 11 = 0 := w1
  have w2 : J 132 25 = 0 := w2
  have i17 : ∀ k, 7 ≤ k → k < 12 → zy_in zw_xx 17 k := fun k a b => zy_in_at 0 17 7 12 k rfl a b
  have i132 : ∀ k, 21 ≤ k → k < 26 → zy_in zw_xx 132 k := fun k a b => zy_in_at 1 132 21 26 k rfl a b
  by_cases h300 : c = 300
  · have fr : zy_fr zw_xx J (zx_u2 (zx_u2 J 17 11 1) 132 25 1) := zy_fr_u2 (zy_fr_u2 (zy_fr_rf _ _) (i17 11 (by omega) (by omega))) (i132 25 (by omega) (by omega))
    refine ⟨zx_u2 (zx_u2 J 17 11 1) 132 25 1, c, true, zo_K_fr hK fr (by decide), ?_, zy_fr_mono fr (by decide), by simp [zx_u2], Nat.le_refl _, fun _ => rfl, fun l E d X L Y Q hY hq => ?_, fun l E d X L Y Q hY hq => ?_⟩
    · refine ⟨⟨x1, ?_, ?_⟩, ⟨y1, ?_, ?_⟩, ⟨?_, ?_⟩, ?_, ?_⟩
      · simp [zx_u2]; exact x2
      · simp [zx_u2]; exact x3
      · simp [zx_u2]; exact y2
      · simp [zx_u2]; exact y3
      · simp [zx_u2]; exact z1
      · simp [zx_u2]; exact z2
      · simp [zx_u2]
      · simp [zx_u2]
    · have e7 : zy_mix J X 17 7 = nI c := x2
      refine sg_68_0 hY _ ⟨fun h => ?_, fun _ => ⟨rfl, ?_⟩⟩
      · rw [e7, h300] at h; exact absurd h (by decide)
      · rw [zy_mix_ulo (by omega)]
        rw [zy_mix_ilo (by omega)] at hq
        exact hq
    · have e25 : zy_mix X J 132 25 = 0 := w2
      have e21 : zy_mix X J 132 21 = 300 := by show J 132 21 = 300; rw [x3, h300]; rfl
      refine sg_201_0 hY _ ⟨fun h => absurd e25 h, fun _ => ⟨fun h => absurd e21 h, fun _ => ⟨fun h => absurd h (by decide), fun _ => ⟨rfl, ?_⟩⟩⟩⟩
      rw [zy_mix_uhi (by omega)]
      have e : zy_mix X (zx_u2 (zx_u2 J 17 11 1) 132 25 1) = zy_mix X (zx_u2 J 132 25 1) := zy_mix_eq (fun a k ha => by rw [zy_mix_lo ha]) (fun a k ha => by rw [zy_mix_hi ha]; unfold zx_u2; split; rfl; rw [if_neg (by omega)])
      rw [e] at hq
      exact hq
  · have hlt : c < 300 := by omega
    have fr0 : zy_fr zw_xx J (zx_u2 J 17 7 (nI (c + 1))) := zy_fr_u2 (zy_fr_rf _ _) (i17 7 (by omega) (by omega))
    obtain ⟨S0, r0, H0, hC0⟩ := zo_K_fr hK fr0 (by decide)
    obtain ⟨v, J1, S1, r1, H1, hC1, fr1, hv, cC, cM⟩ := zs_call hC0 hcd h0 hdig
    have f17 : ∀ k, 7 ≤ k → k < 12 → J1 17 k = zx_u2 J 17 7 (nI (c + 1)) 17 k := fun k a b => zy_fr_on fr1 (R := [(17, 7, 12)]) (by decide) 17 k (zy_in_at 0 17 7 12 k rfl a b)
    have f132 : ∀ k, 14 ≤ k → k < 30 → J1 132 k = zx_u2 J 17 7 (nI (c + 1)) 132 k := fun k a b => zy_fr_on fr1 (R := [(132, 14, 30)]) (by decide) 132 k (zy_in_at 0 132 14 30 k rfl a b)
    have g7 : J1 17 7 = nI (c + 1) := by rw [f17 7 (by omega) (by omega), zy_u2_self]
    have g8 : J1 17 8 = J 17 8 := by rw [f17 8 (by omega) (by omega), zy_u2_nk (by omega)]
    have g9 : J1 17 9 = J 17 9 := by rw [f17 9 (by omega) (by omega), zy_u2_nk (by omega)]
    have g10 : J1 17 10 = J 17 10 := by rw [f17 10 (by omega) (by omega), zy_u2_nk (by omega)]
    have g11 : J1 17 11 = J 17 11 := by rw [f17 11 (by omega) (by omega), zy_u2_nk (by omega)]
    have m15 : J1 132 15 = J 132 15 := by rw [f132 15 (by omega) (by omega), zy_u2_na (by omega)]
    have m21 : J1 132 21 = J 132 21 := by rw [f132 21 (by omega) (by omega), zy_u2_na (by omega)]
    have m22 : J1 132 22 = J 132 22 := by rw [f132 22 (by omega) (by omega), zy_u2_na (by omega)]
    have m23 : J1 132 23 = J 132 23 := by rw [f132 23 (by omega) (by omega), zy_u2_na (by omega)]
    have m24 : J1 132 24 = J 132 24 := by rw [f132 24 (by omega) (by omega), zy_u2_na (by omega)]
    have m25 : J1 132 25 = J 132 25 := by rw [f132 25 (by omega) (by omega), zy_u2_na (by omega)]
    have fr01 : zy_fr zw_mk J J1 := zy_fr_tr (zy_fr_mono fr0 (by decide)) (zy_fr_mono fr1 (by decide))
    have e0 : ∀ X, zx_u2 (zy_mix X J) 132 25 0 = zy_mix X (zx_u2 J 17 7 (nI (c + 1))) := fun X => by
      rw [zy_mix_ihi (by omega)]; exact zy_u2_sm w2
    have n25 : ∀ X : Nat → Nat → Int32, zy_mix X J 132 25 = 0 := fun X => w2
    have n21 : ∀ X : Nat → Nat → Int32, ¬ zy_mix X J 132 21 = 300 := fun X h => by
      have h : J 132 21 = 300 := h
      rw [x3] at h
      exact h300 ((nI_eq (b := 300) (by omega) (by omega)).mp h)
    by_cases hv0 : v ≤ 0
    · have fr2 : zy_fr zw_xx J1 (zx_u2 (zx_u2 (zx_u2 J1 132 21 (nI (c + 1))) 132 22 (J1 132 22 + nI 0)) 132 23 (J1 132 23 + 0)) := zy_fr_u2 (zy_fr_u2 (zy_fr_u2 (zy_fr_rf _ _) (i132 21 (by omega) (by omega))) (i132 22 (by omega) (by omega))) (i132 23 (by omega) (by omega))
      refine ⟨_, c + 1, false, zo_K_fr ⟨S1, r1, H1, hC1⟩ fr2 (by decide), ?_, zy_fr_tr fr01 (zy_fr_mono fr2 (by decide)), ?_, by omega, fun h => by omega, fun l E d X L Y Q hY hq => ?_, fun l E d X L Y Q hY hq => ?_⟩
      · refine ⟨⟨by omega, ?_, ?_⟩, ⟨y1, ?_, ?_⟩, ⟨?_, ?_⟩, ?_, ?_⟩
        · simp [zx_u2]; exact g7
        · simp [zx_u2]
        · simp [zx_u2]; rw [g10]; exact y2
        · simp [zx_u2]; rw [m24]; exact y3
        · simp [zx_u2]; rw [m22, g8, nI_0, Int32.add_zero]; exact z1
        · simp [zx_u2]; rw [m23, g9]; exact z2
        · simp [zx_u2]; rw [g11]; exact w1
        · simp [zx_u2]; rw [m25]; exact w2
      · simp [zx_u2]; exact m15
      · rw [zy_mix_ilo (by omega), zy_mix_ilo (by omega), zy_mix_ilo (by omega)] at hq
        have e7 : zy_mix J X 17 7 = nI c := x2
        refine sg_68_0 hY _ ⟨fun _ => ?_, fun h => ?_⟩
        · rw [e7, nI_1, zy_mix_ulo (by omega)]
          exact cC l E d X L Y _ hY ⟨hY, fun _ => ⟨rfl, hq⟩, fun h => absurd hv0 h⟩
        · rw [e7] at h; exact absurd ((nI_ltI (b := 300) (by omega) (by omega)).mpr hlt) h
      · refine sg_201_0 hY _ ⟨fun h => absurd (n25 X) h, fun _ => ⟨fun _ => ⟨fun _ => ?_, fun h => absurd rfl h⟩, fun h => absurd h (n21 X)⟩⟩
        rw [e0]
        refine cM l E d X L Y _ hY ⟨hY, fun _ => ?_, fun h => absurd hv0 h⟩
        have e21 : zy_mix X J1 132 21 + 1 = nI (c + 1) := by show J1 132 21 + 1 = _; rw [m21, x3, nI_1]
        dsimp only
        rw [e21, zy_mix_uhi (by omega)]
        refine zy_169b (b := false) hY ⟨hY, fun _ => ⟨rfl, ?_⟩, fun h => absurd hv0 h⟩
        dsimp only
        have eq : zx_u2 (zx_u2 (zy_mix X (zx_u2 J1 132 21 (nI (c + 1)))) 132 22 (zy_mix X J1 132 22 + nI 0)) 132 23 (zy_mix X (zx_u2 J1 132 21 (nI (c + 1))) 132 23 + 0) = zy_mix X (zx_u2 (zx_u2 (zx_u2 J1 132 21 (nI (c + 1))) 132 22 (J1 132 22 + nI 0)) 132 23 (J1 132 23 + 0)) := by
          rw [zy_mix_uhi (by omega), zy_mix_uhi (by omega)]; rfl
        show Q (zx_u2 (zx_u2 (zy_mix X (zx_u2 J1 132 21 (nI (c + 1)))) 132 22 (zy_mix X J1 132 22 + nI 0)) 132 23 (zy_mix X (zx_u2 J1 132 21 (nI (c + 1))) 132 23 + 0), L, Y)
        rw [eq]
        exact hq
    · obtain ⟨c0, hc0, rfl⟩ : ∃ c0 : Nat, c0 < 1024 ∧ v = nI c0 := by
        rcases hv with h | h
        · rw [h] at hv0; exact absurd (by decide) hv0
        · exact h
      have fr2 : zy_fr zw_xx J1 (zx_u2 (zx_u2 (zx_u2 (zx_u2 (zx_u2 J1 17 8 (J1 17 8 + 1)) 17 9 (J1 17 9 + nI (zy_pop c0))) 132 21 (nI (c + 1))) 132 22 (J1 132 22 + 1)) 132 23 (J1 132 23 + nI (zy_pop c0))) := zy_fr_u2 (zy_fr_u2 (zy_fr_u2 (zy_fr_u2 (zy_fr_u2 (zy_fr_rf _ _) (i17 8 (by omega) (by omega))) (i17 9 (by omega) (by omega))) (i132 21 (by omega) (by omega))) (i132 22 (by omega) (by omega))) (i132 23 (by omega) (by omega))
      refine ⟨_, c + 1, false, zo_K_fr ⟨S1, r1, H1, hC1⟩ fr2 (by decide), ?_, zy_fr_tr fr01 (zy_fr_mono fr2 (by decide)), ?_, by omega, fun h => by omega, fun l E d X L Y Q hY hq => ?_, fun l E d X L Y Q hY hq => ?_⟩
      · refine ⟨⟨by omega, ?_, ?_⟩, ⟨y1, ?_, ?_⟩, ⟨?_, ?_⟩, ?_, ?_⟩
        · simp [zx_u2]; exact g7
        · simp [zx_u2]
        · simp [zx_u2]; rw [g10]; exact y2
        · simp [zx_u2]; rw [m24]; exact y3
        · simp [zx_u2]; rw [m22, g8, z1]
        · simp [zx_u2]; rw [m23, g9, z2]
        · simp [zx_u2]; rw [g11]; exact w1
        · simp [zx_u2]; rw [m25]; exact w2
      · simp [zx_u2]; exact m15
      · rw [zy_mix_ilo (by omega), zy_mix_ilo (by omega), zy_mix_ilo (by omega)] at hq
        have e7 : zy_mix J X 17 7 = nI c := x2
        refine sg_68_0 hY _ ⟨fun _ => ?_, fun h => ?_⟩
        · rw [e7, nI_1, zy_mix_ulo (by omega)]
          refine cC l E d X L Y _ hY ⟨hY, fun h => absurd h hv0, fun _ => ?_⟩
          refine zy_266 hY hc0 ⟨hY, rfl, ?_⟩
          show Q (zx_u2 (zx_u2 (zy_mix J1 X) 17 8 (J1 17 8 + 1)) 17 9 (J1 17 9 + nI (zy_pop c0)), L, Y)
          rw [zy_mix_ulo (by omega), zy_mix_ulo (by omega)]
          exact hq
        · rw [e7] at h; exact absurd ((nI_ltI (b := 300) (by omega) (by omega)).mpr hlt) h
      · refine sg_201_0 hY _ ⟨fun h => absurd (n25 X) h, fun _ => ⟨fun _ => ⟨fun _ => ?_, fun h => absurd rfl h⟩, fun h => absurd h (n21 X)⟩⟩
        rw [e0]
        refine cM l E d X L Y _ hY ⟨hY, fun h => absurd h hv0, fun _ => ?_⟩
        have e21 : zy_mix X J1 132 21 + 1 = nI (c + 1) := by show J1 132 21 + 1 = _; rw [m21, x3, nI_1]
        dsimp only
        rw [e21, zy_mix_uhi (by omega)]
        refine zy_169b (b := true) hY ⟨hY, fun h => absurd h hv0, fun _ => ?_⟩
        refine zy_266 hY hc0 ⟨hY, rfl, ?_⟩
        show Q (zx_u2 (zx_u2 (zy_mix X (zx_u2 J1 132 21 (nI (c + 1)))) 132 22 (J1 132 22 + 1)) 132 23 (J1 132 23 + nI (zy_pop c0)), L, Y)
        rw [zy_mix_uhi (by omega), zy_mix_uhi (by omega)]
        have e : zy_mix X (zx_u2 (zx_u2 (zx_u2 J1 132 21 (nI (c + 1))) 132 22 (J1 132 22 + 1)) 132 23 (J1 132 23 + nI (zy_pop c0))) = zy_mix X (zx_u2 (zx_u2 (zx_u2 (zx_u2 (zx_u2 J1 17 8 (J1 17 8 + 1)) 17 9 (J1 17 9 + nI (zy_pop c0))) 132 21 (nI (c + 1))) 132 22 (J1 132 22 + 1)) 132 23 (J1 132 23 + nI (zy_pop c0))) := zy_mix_eq (fun a k ha => by rw [zy_mix_lo ha]) (fun a k ha => by
          rw [zy_mix_hi ha]; unfold zx_u2
          have h1 : ¬ (a = 17 ∧ k = 9) := by omega
          have h2 : ¬ (a = 17 ∧ k = 8) := by omega
          rw [if_neg h1, if_neg h2])
        rw [e]
        exact hq
