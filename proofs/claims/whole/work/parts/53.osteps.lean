/-! ===== orders: a step, steps ===== -/
section YEs
variable {T : Nat → Nat} {to P b : Nat}
theorem zo_gr_sh {g j kd w : Nat} {rb : Nat → Bool × Nat × zo_P} (h : (zo_gr T to g rb j (zo_blk kd w)).1 = true) : g ≠ 0 ∧ zt_s T to j = 40 ∧ (rb (j + 1)).1 = true ∧ zt_s T to (rb (j + 1)).2.1 = 41 ∧ zo_gr T to g rb j (zo_blk kd w) = (true, (rb (j + 1)).2.1 + 1, zo_blk kd w (rb (j + 1)).2.2) := by
  unfold zo_gr at h ⊢
  by_cases h0 : g = 0
  · rw [if_pos h0] at h; cases h
  · rw [if_neg h0] at h ⊢
    by_cases h1 : zt_s T to j = 40
    · rw [if_pos h1] at h ⊢
      by_cases h2 : (rb (j + 1)).1 = true
      · rw [if_pos h2] at h ⊢
        by_cases h3 : zt_s T to (rb (j + 1)).2.1 = 41
        · rw [if_pos h3]
          exact ⟨h0, h1, h2, h3, rfl⟩
        · rw [if_neg h3] at h; cases h
      · rw [if_neg h2] at h; cases h
    · rw [if_neg h1] at h; cases h
theorem zo_st_sh {g i : Nat} {rb : Nat → Bool × Nat × zo_P} (h : (zo_st T to g rb i).1 = true) : ∃ (kd w : Nat) (bk : zo_P), ∀ r, (zo_st T to g rb i).2.2 r = (kd, w, bk.length) :: (bk ++ r) := by
  unfold zo_st at h ⊢
  by_cases hd : zt_dig (zt_s T to i) = true
  · rw [if_pos hd] at h ⊢
    obtain ⟨-, -, -, -, e⟩ := zo_gr_sh h
    rw [e]; exact ⟨_, _, _, fun r => rfl⟩
  · rw [if_neg hd] at h ⊢
    by_cases h126 : zt_s T to i = 126
    · rw [if_pos h126] at h ⊢
      by_cases h0 : (zt_run T to 8 (i + 1) 0).1 = 0
      · rw [if_pos h0] at h; cases h
      · rw [if_neg h0] at h ⊢
        obtain ⟨-, -, -, -, e⟩ := zo_gr_sh h
        rw [e]; exact ⟨_, _, _, fun r => rfl⟩
    · rw [if_neg h126] at h ⊢
      by_cases h42 : zt_s T to (zt_run T to 8 i 0).2 = 42
      · rw [if_pos h42]; exact ⟨_, _, [], fun r => rfl⟩
      · rw [if_neg h42] at h ⊢
        by_cases h0 : (zt_run T to 8 i 0).1 = 0
        · rw [if_pos h0] at h; cases h
        · rw [if_neg h0]; exact ⟨_, _, [], fun r => rfl⟩
/-- the class takes the step at a by its kind -/
theorem zo_67 {J X : zo_Me} {a kd w n : Nat} {r : zo_P} (hA : zo_A J a ((kd, w, n) :: r)) (ha : a < 60) (hkd : kd ≤ 3) {l : Launch} {E : zx_E} {d : Nat} {L : Nat → Nat → Int64} {Y : zx_Y} {Q : zx_M → Prop} {x : Int32} (hY : zx_lay Y)
    (hq : if kd = 0 then zx_Cv l E d 68 [.ref 17, .int (nI w)] (zy_mix J X, L, Y) (fun M' => zx_lay M'.2.2 ∧ Q M') else if kd = 1 then zx_Cv l E d 69 [.ref 17, .int (nI w)] (zy_mix J X, L, Y) (fun M' => zx_lay M'.2.2 ∧ Q M') else if kd = 2 then zx_Cv l E d 72 [.ref 17, .int (nI a), .int x] (zy_mix J X, L, Y) (fun M' => zx_lay M'.2.2 ∧ Q M') else zx_Cv l E d 73 [.ref 17, .int (nI a), .int x] (zy_mix J X, L, Y) (fun M' => zx_lay M'.2.2 ∧ Q M')) :
    zx_Cv l E (d + 1) 67 [.ref 17, .int (nI a), .int x] (zy_mix J X, L, Y) Q := by
  obtain ⟨⟨e18, e19, -⟩, -⟩ := zo_A_cons.mp hA
  have e18 : zy_mix J X 18 a = nI kd := e18
  have e19 : zy_mix J X 19 a = nI w := e19
  have hv := vp_in_nI (n := a) (N := 60) ha (by omega)
  refine sg_67_0 hY _ _ ⟨hv, ?_⟩
  rw [nI_clamp (by omega), e18, e19, nI_toInt (by omega)]
  refine ⟨fun h => ?_, fun h => ⟨hv, ?_⟩, fun h => ⟨hv, ?_⟩, fun h => ?_⟩
  · rw [if_neg (by omega), if_neg (by omega), if_neg (by omega)] at hq
    exact zx_Cv.mono hq (fun M' g => ⟨g.1, rfl, g.2⟩)
  · rw [if_pos (by omega)] at hq
    exact zx_Cv.mono hq (fun M' g => ⟨g.1, rfl, g.2⟩)
  · rw [if_neg (by omega), if_pos (by omega)] at hq
    exact zx_Cv.mono hq (fun M' g => ⟨g.1, rfl, g.2⟩)
  · rw [if_neg (by omega), if_neg (by omega), if_pos (by omega)] at hq
    exact zx_Cv.mono hq (fun M' g => ⟨g.1, rfl, g.2⟩)
theorem zs_step (ht : to ≤ 60) (hT : ∀ j, j < to → T j < 256) {f g i a : Nat} (hg : g ≤ 4) (hi : i ≤ to)
    (hblk : g ≠ 0 → ∀ (i a : Nat) (J : zo_Me) (c u : Nat), i ≤ to → (zo_ps T to f (g - 1) i).1 = true → zo_F J T to a (zo_ps T to f (g - 1) i).2.2 → J 132 15 = nI i → zo_K P b J → zo_X J c u false → zo_pk P b (zo_MR (g - 1)) (zo_CR (g - 1) a (a + (zo_ps T to f (g - 1) i).2.2.length)) J c u i (zo_ps T to f (g - 1) i).2.1)
    (hok : (zo_st T to g (zo_ps T to f (g - 1)) i).1 = true) {r : zo_P} {J : zo_Me} {c u : Nat} (hF : zo_F J T to a ((zo_st T to g (zo_ps T to f (g - 1)) i).2.2 r)) (h15 : J 132 15 = nI i) (hK : zo_K P b J) (hX : zo_X J c u false) :
    zo_pk P b (zo_SR g) (zo_TR g a) J c u i (zo_st T to g (zo_ps T to f (g - 1)) i).2.1 := by
  have ht8 : to ≤ 80 := by omega
  have hM : zt_M J T to i := ⟨⟨hF.1.1, h15⟩, hF.1.2⟩
  have hMid : ∀ J2, zy_fr zw_id J J2 → J2 132 15 = nI i → zt_M J2 T to i := fun J2 h h2 => by
    refine ⟨⟨?_, h2⟩, fun k hk => ?_⟩
    · rw [zy_fr_at h 132 16 (by decide)]; exact hF.1.1
    · rw [zy_fr_row h 140 80 (by decide) (by omega)]; exact hF.1.2 k hk
  have mixM : ∀ (X J : zo_Me) (i : Nat), zt_M J T to i → zt_M (zy_mix X J) T to i := fun X J i h => h
  have hu := hX.2.1.1
  obtain ⟨r1, r2, r3, r4, r5, r6, r7⟩ := zt_run_ok (T := T) (to := to) 8 i 0 hi zy_dig_0 (by decide) (Nat.le_refl _)
  unfold zo_st at hok hF ⊢
  by_cases hd : zt_dig (zt_s T to i) = true
  · rw [if_pos hd] at hok hF ⊢
    obtain ⟨d1, d2, d3⟩ := zt_dig_lt hd
    obtain ⟨g0, h40, hb, h41, e⟩ := zo_gr_sh hok
    rw [e] at hF ⊢
    obtain ⟨a40, -⟩ := zt_s_lt h40 (by omega)
    obtain ⟨g, rfl⟩ : ∃ g', g = g' + 1 := ⟨g - 1, by omega⟩
    simp only [Nat.add_sub_cancel] at *
    have hF : zo_F J T to a ((2, T i - 48, (zo_ps T to f g (i + 1 + 1)).2.2.length) :: ((zo_ps T to f g (i + 1 + 1)).2.2 ++ r)) := hF
    have ha60 := hF.2.2
    rw [List.length_cons, List.length_append] at ha60
    have hA := zo_A_cons.mp hF.2.1
    have hF2 : zo_F J T to a ((2, T i - 48, (zo_ps T to f g (i + 1 + 1)).2.2.length) :: (zo_ps T to f g (i + 1 + 1)).2.2) := ⟨hF.1, zo_A_cons.mpr ⟨hA.1, (zo_A_app.mp hA.2).1⟩, by rw [List.length_cons]; omega⟩
    obtain ⟨J', c', u', e', hK', hX', fr', le', p', id', sC, sM⟩ := zs_rep (P := P) (b := b) ht hT hg (show T i - 48 ≤ 9 by omega) h40 hb h41 (fun J c u hF h15 hK hX => hblk (by omega) (i + 1 + 1) (a + 1) J c u (by omega) hb hF h15 hK hX) (T i - 48) 0 J c u false rfl hF2 hK hX
    refine ⟨J', c', u', e', hK', hX', fr', le', fun _ => p', fun h1 h2 => ?_, fun l E d X L Y Q hY hq => ?_, fun l E d X L Y Q hY hq => ?_⟩
    · obtain ⟨i1, i2⟩ := id' (by omega) h1 h2
      refine ⟨i1, fun J2 hJ2 hj => ?_⟩
      obtain ⟨J3, a1, a2, a3⟩ := i2 (T i - 48) 0 J2 (by omega) hJ2
      refine ⟨J3, a1, a2, fun l E d X L Y Q hY hq => ?_⟩
      rw [show d + 2 * (g + 1) + 5 = d + 2 * g + 5 + 2 by omega]
      exact zy_204d hY ht8 hT hi (mixM X J2 i (hMid J2 hJ2 hj)) hd (a3 l E d X L Y _ hY ⟨rfl, hq⟩)
    · rw [show d + 3 * (g + 1) + 5 = d + 3 * g + 7 + 1 by omega]
      refine zo_67 hF.2.1 (by omega) (by omega) hY ?_
      rw [if_neg (by omega), if_neg (by omega), if_pos rfl]
      exact sg_72_0 hY _ _ ⟨fun _ => sC l E d X L Y _ hY ⟨rfl, hY, hq⟩, fun h => absurd ((nI_ltI (b := 4) (by omega) (by omega)).mpr (by omega)) h⟩
    · rw [show d + 2 * (g + 1) + 5 = d + 2 * g + 5 + 2 by omega]
      exact zy_204d hY ht8 hT hi (mixM X J i hM) hd (sM l E d X L Y _ hY ⟨rfl, hq⟩)
  · rw [if_neg hd] at hok hF ⊢
    have hd' : zt_dig (zt_s T to i) = false := by simpa using hd
    by_cases h126 : zt_s T to i = 126
    · rw [if_pos h126] at hok hF ⊢
      obtain ⟨d1, d2⟩ := zt_s_lt h126 (by omega)
      obtain ⟨u1, u2, u3, u4, u5, u6, u7⟩ := zt_run_ok (T := T) (to := to) 8 (i + 1) 0 (by omega) zy_dig_0 (by decide) (Nat.le_refl _)
      by_cases h0 : (zt_run T to 8 (i + 1) 0).1 = 0
      · rw [if_pos h0] at hok; cases hok
      · rw [if_neg h0] at hok hF ⊢
        obtain ⟨g0, h40, hb, h41, e⟩ := zo_gr_sh hok
        rw [e] at hF ⊢
        obtain ⟨a40, -⟩ := zt_s_lt h40 (by omega)
        obtain ⟨g, rfl⟩ : ∃ g', g = g' + 1 := ⟨g - 1, by omega⟩
        simp only [Nat.add_sub_cancel] at *
        generalize hw : zt_run T to 8 (i + 1) 0 = w at *
        have hF : zo_F J T to a ((3, w.1, (zo_ps T to f g (w.2 + 1)).2.2.length) :: ((zo_ps T to f g (w.2 + 1)).2.2 ++ r)) := hF
        have ha60 := hF.2.2
        rw [List.length_cons, List.length_append] at ha60
        have hA := zo_A_cons.mp hF.2.1
        have hF2 : zo_F J T to a ((3, w.1, (zo_ps T to f g (w.2 + 1)).2.2.length) :: (zo_ps T to f g (w.2 + 1)).2.2) := ⟨hF.1, zo_A_cons.mpr ⟨hA.1, (zo_A_app.mp hA.2).1⟩, by rw [List.length_cons]; omega⟩
        have idJ : zy_fr zw_id J (zx_u2 J 132 15 (nI w.2)) := zo_id_15
        obtain ⟨J', c', u', e', hK', hX', fr', le', p', id', sC, sM⟩ := zs_unt (P := P) (b := b) ht hT hg u2 h0 h40 hb h41 (fun J c u hF h15 hK hX => hblk (by omega) (w.2 + 1) (a + 1) J c u (by omega) hb hF h15 hK hX) (301 - u) 0 (zx_u2 J 132 15 (nI w.2)) c u false (by omega) (by omega) (zo_F_fr ht8 hF2 (zo_id_ex idJ)) (zo_K_fr hK idJ (by decide)) (zo_X_fr hX idJ (by decide))
        refine ⟨J', c', u', e', hK', hX', zy_fr_tr (zo_id_ex idJ) fr', le', fun _ => p', fun h1 h2 => ?_, fun l E d X L Y Q hY hq => ?_, fun l E d X L Y Q hY hq => ?_⟩
        · obtain ⟨i1, i2⟩ := id' h1 h2
          refine ⟨zy_fr_tr idJ i1, fun J2 hJ2 hj => ?_⟩
          obtain ⟨J3, a1, a2, a3⟩ := i2 (zx_u2 J2 132 15 (nI w.2)) (zo_id_to idJ (zy_fr_tr hJ2 zo_id_15))
          refine ⟨J3, zy_fr_tr idJ a1, a2, fun l E d X L Y Q hY hq => ?_⟩
          rw [show d + 2 * (g + 1) + 5 = d + 2 * g + 4 + 3 by omega]
          refine zy_204u hY ht8 hT hi (mixM X J2 i (hMid J2 hJ2 hj)) h126 ?_
          rw [hw, zy_mix_uhi (by omega)]
          exact a3 l E d X L Y _ hY ⟨rfl, hq⟩
        · rw [show d + 3 * (g + 1) + 5 = d + 3 * g + 7 + 1 by omega]
          refine zo_67 hF.2.1 (by omega) (by omega) hY ?_
          rw [if_neg (by omega), if_neg (by omega), if_neg (by omega)]
          have e0 : zy_mix J X = zy_mix (zx_u2 J 132 15 (nI w.2)) X := (zo_id_mix zo_id_15).symm
          rw [e0]
          exact sg_73_0 hY _ _ ⟨fun _ => sC l E d X L Y _ hY ⟨rfl, hY, hq⟩, fun h => absurd ((nI_ltI (b := 4) (by omega) (by omega)).mpr (by omega)) h⟩
        · rw [show d + 2 * (g + 1) + 5 = d + 2 * g + 4 + 3 by omega]
          refine zy_204u hY ht8 hT hi (mixM X J i hM) h126 ?_
          rw [hw, zy_mix_uhi (by omega)]
          exact sM l E d X L Y _ hY ⟨rfl, hq⟩
    · rw [if_neg h126] at hok hF ⊢
      generalize hw : zt_run T to 8 i 0 = w at *
      have his : zy_is (nI w.1) = true := zy_is_mk r2 r1
      by_cases h42 : zt_s T to w.2 = 42
      · rw [if_pos h42] at hok hF ⊢
        obtain ⟨d1, d2⟩ := zt_s_lt h42 (by omega)
        have idJ : zy_fr zw_id J (zx_u2 J 132 15 (nI (w.2 + 1))) := zo_id_15
        have hF : zo_F J T to a ((1, w.1, 0) :: r) := hF
        have ha60 := hF.2.2
        rw [List.length_cons] at ha60
        obtain ⟨J', c', e', hK', hX', fr', p', le', ne', sC, sM⟩ := zs_all (zo_K_fr hK idJ (by decide)) (zo_X_fr hX idJ (by decide)) his (by omega)
        have p15 : J' 132 15 = nI (w.2 + 1) := p'.trans zy_u2_self
        refine ⟨J', c', u, e', hK', hX', zy_fr_tr (zo_id_ex idJ) fr', ⟨le', Nat.le_refl _⟩, fun _ => p15, fun h1 h2 => ?_, fun l E d X L Y Q hY hq => ?_, fun l E d X L Y Q hY hq => ?_⟩
        · obtain ⟨a1, a2⟩ := ne' (by omega) h2
          have ia : zy_fr zw_id J J' := by rw [a1]; exact zy_fr_tr idJ zo_id_0
          refine ⟨ia, fun J2 hJ2 hj => ⟨zx_u2 (zx_u2 J2 132 15 (nI (w.2 + 1))) 132 0 0, zy_fr_tr (zy_fr_tr hJ2 zo_id_15) zo_id_0, by rw [zy_u2_nk (by omega), zy_u2_self], fun l E d X L Y Q hY hq => ?_⟩⟩
          have id2 : zy_fr zw_id J (zx_u2 J2 132 15 (nI (w.2 + 1))) := zy_fr_tr hJ2 zo_id_15
          rw [show d + 2 * g + 5 = d + 2 * g + 2 + 3 by omega]
          refine zy_204n hY ht8 hT hi (mixM X J2 i (hMid J2 hJ2 hj)) hd' h126 ?_
          rw [hw, if_pos h42, zy_mix_uhi (by omega)]
          refine zs_all_nil (zo_K_fr hK id2 (by decide)) his (by omega) ?_ hY ⟨hY, hq⟩
          rw [zo_nm_id (zo_id_to idJ id2)]; exact a2
        · rw [show d + 3 * g + 5 = d + 3 * g + 4 + 1 by omega]
          refine zo_67 hF.2.1 (by omega) (by omega) hY ?_
          rw [if_neg (by omega), if_pos rfl]
          have e0 : zy_mix J X = zy_mix (zx_u2 J 132 15 (nI (w.2 + 1))) X := (zo_id_mix zo_id_15).symm
          rw [e0]
          exact sC l E (d + 3 * g) X L Y _ hY ⟨hY, hq⟩
        · rw [show d + 2 * g + 5 = d + 2 * g + 2 + 3 by omega]
          refine zy_204n hY ht8 hT hi (mixM X J i hM) hd' h126 ?_
          rw [hw, if_pos h42, zy_mix_uhi (by omega)]
          exact sM l E (d + 2 * g) X L Y _ hY ⟨hY, hq⟩
      · rw [if_neg h42] at hok hF ⊢
        by_cases h0 : w.1 = 0
        · rw [if_pos h0] at hok; cases hok
        · rw [if_neg h0] at hok hF ⊢
          have idJ : zy_fr zw_id J (zx_u2 J 132 15 (nI w.2)) := zo_id_15
          have hF : zo_F J T to a ((0, w.1, 0) :: r) := hF
          have ha60 := hF.2.2
          rw [List.length_cons] at ha60
          obtain ⟨J', c', e', hK', hX', fr', p', le', ne', sC, sM⟩ := zs_made (zo_K_fr hK idJ (by decide)) (zo_X_fr hX idJ (by decide)) r2 h0 r1
          have p15 : J' 132 15 = nI w.2 := p'.trans zy_u2_self
          refine ⟨J', c', u, e', hK', hX', zy_fr_tr (zo_id_ex idJ) (zy_fr_mono fr' (by decide)), ⟨le', Nat.le_refl _⟩, fun _ => p15, fun h1 h2 => ?_, fun l E d X L Y Q hY hq => ?_, fun l E d X L Y Q hY hq => ?_⟩
          · rw [ne' (by omega)] at h2; cases h2
          · rw [show d + 3 * g + 5 = d + 3 * g + 4 + 1 by omega]
            refine zo_67 hF.2.1 (by omega) (by omega) hY ?_
            rw [if_pos rfl]
            have e0 : zy_mix J X = zy_mix (zx_u2 J 132 15 (nI w.2)) X := (zo_id_mix zo_id_15).symm
            rw [e0]
            exact sC l E (d + 3 * g + 1) X L Y _ hY ⟨hY, hq⟩
          · rw [show d + 2 * g + 5 = d + 2 * g + 2 + 3 by omega]
            refine zy_204n hY ht8 hT hi (mixM X J i hM) hd' h126 ?_
            rw [hw, if_neg h42, zy_mix_uhi (by omega)]
            exact sM l E (d + 2 * g + 1) X L Y _ hY ⟨hY, hq⟩
/-- behind a step: no more -/
theorem zo_MR_end {g j : Nat} {J J1 : zo_Me} (ht : to ≤ 80) (hT : ∀ j, j < to → T j < 256) (hM : J1 132 25 = 0 → zt_M J1 T to j ∧ j ≤ to ∧ ¬ zt_s T to j = 59) (h : zo_SR g J J1) : zo_MR g J J1 := fun l E d X L Y Q hY hq => by
  refine h l E d X L Y _ hY ⟨hY, sg_205_4 hY ⟨fun _ => hq, fun h0 => ?_⟩⟩
  obtain ⟨m1, m2, m3⟩ := hM h0
  refine zy_179 (I := zy_mix X J1) hY hT ht m2 m1 (s := 59) (by omega) ?_
  rw [if_neg m3]
  exact ⟨hY, fun _ => hq, fun h => absurd rfl h⟩
theorem zo_MR_more {g j : Nat} {J J1 J2 : zo_Me} (ht : to ≤ 80) (hT : ∀ j, j < to → T j < 256) (h0 : J1 132 25 = 0) (hM : zt_M J1 T to j) (hj : j ≤ to) (h59 : zt_s T to j = 59) (h : zo_SR g J J1) (h2 : zo_MR g (zx_u2 J1 132 15 (nI (j + 1))) J2) : zo_MR g J J2 := fun l E d X L Y Q hY hq => by
  refine h l E d X L Y _ hY ⟨hY, sg_205_4 hY ⟨fun h => absurd h0 h, fun _ => ?_⟩⟩
  refine zy_179 (I := zy_mix X J1) hY hT ht hj hM (s := 59) (by omega) ?_
  rw [if_pos h59, zy_mix_uhi (by omega)]
  exact ⟨hY, fun h => absurd h (by decide), fun _ => h2 l E d X L Y Q hY hq⟩
theorem zs_steps (ht : to ≤ 60) (hT : ∀ j, j < to → T j < 256) : ∀ (f g i a : Nat) (J : zo_Me) (c u : Nat), g ≤ 4 → i ≤ to → (zo_ps T to f g i).1 = true → zo_F J T to a (zo_ps T to f g i).2.2 → J 132 15 = nI i → zo_K P b J → zo_X J c u false → zo_pk P b (zo_MR g) (zo_CR g a (a + (zo_ps T to f g i).2.2.length)) J c u i (zo_ps T to f g i).2.1 := by
  have ht8 : to ≤ 80 := by omega
  intro f
  induction f with
  | zero => intro g i a J c u hg hi hok; cases hok
  | succ f ih =>
    intro g i a J c u hg hi hok hF h15 hK hX
    rw [zo_ps] at hok hF ⊢
    by_cases hs : (zo_st T to g (zo_ps T to f (g - 1)) i).1 = true
    · rw [if_pos hs] at hok hF ⊢
      obtain ⟨s1, s2, s3⟩ := zo_st_ok (T := T) (to := to) (g := g) (i := i) (rb := zo_ps T to f (g - 1)) hi (fun k hk => zo_ps_ok f (g - 1) k hk)
      have stp : ∀ r, zo_F J T to a ((zo_st T to g (zo_ps T to f (g - 1)) i).2.2 r) → zo_pk P b (zo_SR g) (zo_TR g a) J c u i (zo_st T to g (zo_ps T to f (g - 1)) i).2.1 := fun r hFr => zs_step ht hT hg hi (fun h0 i a J c u k1 k2 k3 k4 k5 k6 => ih (g - 1) i a J c u (by omega) k1 k2 k3 k4 k5 k6) hs hFr h15 hK hX
      obtain ⟨kd, w, bk, hsh⟩ := zo_st_sh hs
      generalize zo_st T to g (zo_ps T to f (g - 1)) i = st at *
      have w1 : J 17 11 = 0 := hX.2.2.2.1
      -- the class's loop: a step at a, then on at the row behind it
      have cls : ∀ (r : zo_P) (J1 : zo_Me), zo_F J T to a (st.2.2 r) → zo_TR g a J J1 → zy_fr zw_ex J J1 → ∀ (m : Nat) (l : Launch) (E : zx_E) (d : Nat) (X : zo_Me) (L : Nat → Nat → Int64) (Y : zx_Y) (Q : Option Value → zx_M → Prop), m ≤ a → zx_lay Y → zx_To l E (d + 3 * g + 6) 66 14 [some (.ref 17), none, none, some (.int (nI (4 - g))), some (.int (nI (a + (st.2.2 r).length))), some (.int (nI (a + 1 + bk.length))), some (.int (nI (m + 1)))] [] (zy_mix J1 X, L, Y) Q →
          zx_To l E (d + 3 * g + 6) 66 14 [some (.ref 17), none, none, some (.int (nI (4 - g))), some (.int (nI (a + (st.2.2 r).length))), some (.int (nI a)), some (.int (nI m))] [] (zy_mix J X, L, Y) Q := by
        intro r J1 hFr hTR hfr m l E d X L Y Q hm hY hq
        have h60 := hFr.2.2
        have hl : (st.2.2 r).length = 1 + bk.length + r.length := by rw [hsh, List.length_cons, List.length_append]; omega
        have e20 : J1 20 a = nI (a + 1 + bk.length) := by
          rw [zy_fr_row hfr 20 60 (by decide) (by omega)]
          have := hFr.2.1
          rw [hsh] at this
          exact (zo_A_cons.mp this).1.2.2
        refine sg_66_14 hY _ _ _ _ ⟨fun h => absurd ((zy_60 (by omega)).mp h) (by omega), fun _ => ⟨fun h => absurd h (nI_pos (by omega)), fun _ => ⟨fun h => absurd ((nI_leI (by omega) (by omega)).mp h) (by omega), fun _ => ⟨fun h => absurd w1 h, fun _ => ?_⟩⟩⟩⟩
        refine hTR l E d X L Y _ hY ⟨hY, vp_in_nI (by omega) (by omega), ?_⟩
        rw [nI_1, nI_clamp (by omega)]
        show zx_To l E (d + 3 * g + 6) 66 14 [some (.ref 17), none, none, some (.int (nI (4 - g))), some (.int (nI (a + (st.2.2 r).length))), some (.int (J1 20 a)), some (.int (nI (m + 1)))] [] (zy_mix J1 X, L, Y) Q
        rw [e20]
        exact hq
      by_cases h59 : zt_s T to st.2.1 = 59
      · rw [if_pos h59] at hok hF ⊢
        obtain ⟨d1, d2⟩ := zt_s_lt h59 (by omega)
        obtain ⟨J1, c1, u1, e1, hK1, hX1, fr1, le1, p1, id1, rC, rM⟩ := stp _ hF
        have hF1 := zo_F_fr ht8 hF fr1
        have h60 := hF.2.2
        have hl : ∀ r, (st.2.2 r).length = 1 + bk.length + r.length := fun r => by rw [hsh, List.length_cons, List.length_append]; omega
        rw [hl] at h60
        cases e1 with
        | true =>
          have v1 : J1 17 11 = 1 := hX1.2.2.2.1
          have v2 : J1 132 25 = 1 := hX1.2.2.2.2
          refine ⟨J1, c1, u1, true, hK1, hX1, fr1, le1, fun h => (by cases h), fun _ h => (by cases h), fun m l E d X L Y Q hm hY hq => ?_, zo_MR_end (j := 0) ht8 hT (fun h => by rw [v2] at h; exact absurd h (by decide)) rM⟩
          refine cls _ J1 hF rC fr1 m l E d X L Y Q hm hY ?_
          refine sg_66_14 hY _ _ _ _ ⟨fun _ => hq, fun _ => ⟨fun _ => hq, fun _ => ⟨fun _ => hq, fun _ => ⟨fun _ => hq, fun h => ?_⟩⟩⟩⟩
          have h : J1 17 11 = 0 := h
          rw [v1] at h; exact absurd h (by decide)
        | false =>
          have v2 : J1 132 25 = 0 := hX1.2.2.2.2
          have p1 := p1 rfl
          have idJ1 : zy_fr zw_id J1 (zx_u2 J1 132 15 (nI (st.2.1 + 1))) := zo_id_15
          have hF2 : zo_F (zx_u2 J1 132 15 (nI (st.2.1 + 1))) T to (a + 1 + bk.length) (zo_ps T to f g (st.2.1 + 1)).2.2 := by
            have k := zo_F_fr ht8 hF1 (zo_id_ex idJ1)
            have kA := k.2.1
            rw [hsh] at kA
            exact ⟨k.1, (zo_A_app.mp (zo_A_cons.mp kA).2).2, by omega⟩
          obtain ⟨J2, c2, u2, e2, hK2, hX2, fr2, le2, p2, id2, rC2, rM2⟩ := ih g (st.2.1 + 1) (a + 1 + bk.length) _ c1 u1 hg (by omega) hok hF2 zy_u2_self (zo_K_fr hK1 idJ1 (by decide)) (zo_X_fr hX1 idJ1 (by decide))
          have hM1 : zt_M J1 T to st.2.1 := ⟨⟨hF1.1.1, p1⟩, hF1.1.2⟩
          refine ⟨J2, c2, u2, e2, hK2, hX2, zy_fr_tr (zy_fr_tr fr1 (zo_id_ex idJ1)) fr2, ⟨by omega, by omega⟩, p2, fun h1 h2 => ?_, fun m l E d X L Y Q hm hY hq => ?_, zo_MR_more ht8 hT v2 hM1 s2 h59 rM rM2⟩
          · obtain ⟨x1, x2⟩ := id1 (by omega) rfl
            obtain ⟨y1, y2⟩ := id2 (by omega) h2
            have z1 : zy_fr zw_id J (zx_u2 J1 132 15 (nI (st.2.1 + 1))) := zy_fr_tr x1 idJ1
            refine ⟨zy_fr_tr z1 y1, fun K2 hK2 hj => ?_⟩
            obtain ⟨K3, a1, a2, a3⟩ := x2 K2 hK2 hj
            obtain ⟨K4, b1, b2, b3⟩ := y2 (zx_u2 K3 132 15 (nI (st.2.1 + 1))) (zo_id_to z1 (zy_fr_tr a1 zo_id_15)) zy_u2_self
            have hFK := zo_F_fr ht8 hF (zo_id_ex a1)
            refine ⟨K4, zy_fr_tr z1 b1, b2, zo_MR_more ht8 hT ?_ ⟨⟨hFK.1.1, a2⟩, hFK.1.2⟩ s2 h59 a3 b3⟩
            rw [zy_fr_at a1 132 25 (by decide)]; exact hX.2.2.2.2
          · refine cls _ J1 hF rC fr1 m l E d X L Y Q hm hY ?_
            have e0 : zy_mix J1 X = zy_mix (zx_u2 J1 132 15 (nI (st.2.1 + 1))) X := (zo_id_mix zo_id_15).symm
            rw [e0, hl, show a + (1 + bk.length + (zo_ps T to f g (st.2.1 + 1)).2.2.length) = a + 1 + bk.length + (zo_ps T to f g (st.2.1 + 1)).2.2.length by omega]
            exact rC2 (m + 1) l E d X L Y Q (by omega) hY hq
      · rw [if_neg h59] at hok hF ⊢
        obtain ⟨J1, c1, u1, e1, hK1, hX1, fr1, le1, p1, id1, rC, rM⟩ := stp _ hF
        have hF1 := zo_F_fr ht8 hF fr1
        have h60 := hF.2.2
        have hl : (st.2.2 []).length = 1 + bk.length := by rw [hsh, List.length_cons, List.length_append, List.length_nil]; omega
        rw [hl] at h60
        refine ⟨J1, c1, u1, e1, hK1, hX1, fr1, le1, p1, fun h1 h2 => ?_, fun m l E d X L Y Q hm hY hq => ?_, zo_MR_end (j := st.2.1) ht8 hT (fun h => ?_) rM⟩
        · obtain ⟨x1, x2⟩ := id1 h1 h2
          refine ⟨x1, fun K2 hK2 hj => ?_⟩
          obtain ⟨K3, a1, a2, a3⟩ := x2 K2 hK2 hj
          have hFK := zo_F_fr ht8 hF (zo_id_ex a1)
          exact ⟨K3, a1, a2, zo_MR_end (j := st.2.1) ht8 hT (fun _ => ⟨⟨⟨hFK.1.1, a2⟩, hFK.1.2⟩, s2, h59⟩) a3⟩
        · refine cls _ J1 hF rC fr1 m l E d X L Y Q hm hY ?_
          refine sg_66_14 hY _ _ _ _ ⟨fun _ => hq, fun _ => ⟨fun _ => hq, fun _ => ⟨fun _ => hq, fun h => absurd (nI_le (by omega) (by omega)) h⟩⟩⟩
        · have he : e1 = false := by
            cases e1
            · rfl
            · have v2 : J1 132 25 = 1 := hX1.2.2.2.2
              rw [v2] at h; exact absurd h (by decide)
          exact ⟨⟨⟨hF1.1.1, p1 he⟩, hF1.1.2⟩, s2, h59⟩
    · rw [if_neg hs] at hok; cases hok
end YEs
