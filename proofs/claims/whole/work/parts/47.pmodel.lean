/-! ===== orders: the reference reads ===== -/
def zw_om : List (Nat × Nat × Nat) := [(132, 15, 16), (132, 17, 18)]
section YPm
variable {l : Launch} {E : zx_E} {d : Nat} {I : Nat → Nat → Int32} {L : Nat → Nat → Int64} {Y : zx_Y} {Qo : Option Value → zx_M → Prop} {Q : Int32 → zx_M → Prop} {Qv : zx_M → Prop} {T : Nat → Nat} {n i to : Nat}
theorem zo_M {J : Nat → Nat → Int32} {j : Nat} (hM : zt_M I T to i) (ht : to ≤ 80) (h : zy_fr zw_om I J) (hj : J 132 15 = nI j) : zt_M J T to j := by
  refine ⟨⟨?_, hj⟩, fun k hk => ?_⟩
  · rw [zy_fr_at h 132 16 (by decide)]; exact hM.1.1
  · rw [zy_fr_row h 140 80 (by decide) (by omega)]; exact hM.2 k hk
theorem zo_15 {x : Int32} : zy_fr zw_om I (zx_u2 I 132 15 x) := zy_fr_u2 (zy_fr_rf _ _) (zy_in_at 0 132 15 16 15 rfl (by omega) (by omega))
theorem zo_17 {x : Int32} : zy_fr zw_om I (zx_u2 I 132 17 x) := zy_fr_u2 (zy_fr_rf _ _) (zy_in_at 1 132 17 18 17 rfl (by omega) (by omega))
def zo_m200 (l : Launch) (E : zx_E) (L : Nat → Nat → Int64) (Y : zx_Y) (T : Nat → Nat) (to f g : Nat) : Prop :=
  ∀ (d i : Nat) (I : Nat → Nat → Int32) (Q : Int32 → zx_M → Prop), to < f + i → i ≤ to → zt_M I T to i → I 132 17 = nI (4 - g) →
    ((zo_ps T to f g i).1 = false → ∀ J, zy_fr zw_om I J → J 132 15 = nI (zo_ps T to f g i).2.1 → Q 0 (J, L, Y)) →
    ((zo_ps T to f g i).1 = true → ∀ J, zy_fr zw_om I J → J 132 15 = nI (zo_ps T to f g i).2.1 → J 132 17 = nI (4 - g) → Q 1 (J, L, Y)) →
    zx_Ci l E (d + 3 * g + 4) 200 [.ref 132] (I, L, Y) Q
theorem zy_198 (hY : zx_lay Y) (hT : ∀ j, j < to → T j < 256) (ht : to ≤ 80) {f g : Nat} (hg : g ≤ 4) (h200 : g ≠ 0 → zo_m200 l E L Y T to f (g - 1)) {j : Nat} (hf : to < f + j + 1) (hj : j ≤ to) (hM : zt_M I T to j) (h17 : I 132 17 = nI (4 - g)) {h : zo_P → zo_P → zo_P}
    (q0 : (zo_gr T to g (zo_ps T to f (g - 1)) j h).1 = false → ∀ J, zy_fr zw_om I J → J 132 15 = nI (zo_gr T to g (zo_ps T to f (g - 1)) j h).2.1 → Q 0 (J, L, Y))
    (q1 : (zo_gr T to g (zo_ps T to f (g - 1)) j h).1 = true → ∀ J, zy_fr zw_om I J → J 132 15 = nI (zo_gr T to g (zo_ps T to f (g - 1)) j h).2.1 → J 132 17 = nI (4 - g) → Q 1 (J, L, Y)) :
    zx_Ci l E (d + 3 * g + 2) 198 [.ref 132] (I, L, Y) Q := by
  have e4 : I 132 17 = 4 ↔ g = 0 := by
    rw [h17, show (4 : Int32) = nI 4 by decide, nI_eq (by omega) (by omega)]; omega
  unfold zo_gr at q0 q1
  cases g with
  | zero =>
    rw [if_pos rfl] at q0
    exact sg_198_0 hY ⟨fun _ => ⟨_, rfl, q0 rfl I (zy_fr_rf _ _) hM.1.2⟩, fun h => absurd (e4.mpr rfl) h⟩
  | succ g =>
    rw [if_neg (by omega), show g + 1 - 1 = g by omega] at q0 q1
    have h2 := h200 (by omega)
    rw [show g + 1 - 1 = g by omega] at h2
    refine sg_198_0 hY ⟨fun h => absurd (e4.mp h) (by omega), fun _ => zy_179 hY hT ht hj hM (s := 40) (by omega) ?_⟩
    split
    · rename_i h40
      have hlt := (zt_s_lt h40 (by omega)).1
      rw [if_pos h40] at q0 q1
      refine ⟨hY, fun _ => ?_, fun q => absurd q (by decide)⟩
      dsimp only
      rw [zy_u2_nk (by omega), h17, nI_1, show 4 - (g + 1) + 1 = 4 - g by omega]
      have M1 : zt_M (zx_u2 (zx_u2 I 132 15 (nI (j + 1))) 132 17 (nI (4 - g))) T to (j + 1) := zo_M (zt_M_at (j := j + 1) hM) ht zo_17 (by rw [zy_u2_nk (by omega), zy_u2_self])
      have fr1 : zy_fr zw_om I (zx_u2 (zx_u2 I 132 15 (nI (j + 1))) 132 17 (nI (4 - g))) := zy_fr_tr zo_15 zo_17
      have rb := zo_ps_ok (T := T) (to := to) f g (j + 1) (by omega)
      refine h2 d (j + 1) _ _ (by omega) (by omega) M1 (by rw [zy_u2_self]) (fun hb J hJ h15 => ⟨hY, fun _ => ⟨_, rfl, ?_⟩, fun q => absurd rfl q⟩) (fun hb J hJ h15 hn => ⟨hY, fun q => absurd q (by decide), fun _ => ?_⟩)
      · rw [if_neg (by rw [hb]; decide)] at q0
        exact q0 rfl J (zy_fr_tr fr1 hJ) h15
      · rw [if_pos hb] at q0 q1
        refine zy_179 (I := J) hY hT ht rb.2 (zo_M M1 ht hJ h15) (s := 41) (by omega) ?_
        split
        · rename_i h41
          rw [if_pos h41] at q1
          refine ⟨hY, fun _ => ⟨_, rfl, ?_⟩, fun q => absurd q (by decide)⟩
          dsimp only
          rw [zy_u2_nk (by omega), hn]
          refine q1 rfl _ (zy_fr_tr (zy_fr_tr (zy_fr_tr fr1 hJ) zo_15) zo_17) ?_ ?_
          · rw [zy_u2_nk (by omega), zy_u2_self]
          · rw [zy_u2_self, show 4 - g = 4 - (g + 1) + 1 by omega]; exact nI_pred _
        · rename_i h41
          rw [if_neg h41] at q0
          exact ⟨hY, fun q => absurd rfl q, fun _ => ⟨_, rfl, q0 rfl J (zy_fr_tr fr1 hJ) h15⟩⟩
    · rename_i h40
      rw [if_neg h40] at q0
      exact ⟨hY, fun q => absurd rfl q, fun _ => ⟨_, rfl, q0 rfl I (zy_fr_rf _ _) hM.1.2⟩⟩
theorem zy_199 (hY : zx_lay Y) (hT : ∀ j, j < to → T j < 256) (ht : to ≤ 80) {f g : Nat} (hg : g ≤ 4) (h200 : g ≠ 0 → zo_m200 l E L Y T to f (g - 1)) (hf : to < f + 1 + i) (hi : i ≤ to) (hM : zt_M I T to i) (h17 : I 132 17 = nI (4 - g))
    (q0 : (zo_st T to g (zo_ps T to f (g - 1)) i).1 = false → ∀ J, zy_fr zw_om I J → J 132 15 = nI (zo_st T to g (zo_ps T to f (g - 1)) i).2.1 → Q 0 (J, L, Y))
    (q1 : (zo_st T to g (zo_ps T to f (g - 1)) i).1 = true → ∀ J, zy_fr zw_om I J → J 132 15 = nI (zo_st T to g (zo_ps T to f (g - 1)) i).2.1 → J 132 17 = nI (4 - g) → Q 1 (J, L, Y)) :
    zx_Ci l E (d + 3 * g + 3) 199 [.ref 132] (I, L, Y) Q := by
  obtain ⟨r1, r2, r3, r4, r5, r6, r7⟩ := zt_run_ok (T := T) (to := to) 8 i 0 hi zy_dig_0 (by decide) (Nat.le_refl _)
  have u15 : ∀ (f : Nat → Nat → Int32) (x : Int32), zx_u2 f 132 15 x 132 15 = x := fun f x => zy_u2_self
  have u17 : ∀ (f : Nat → Nat → Int32) (x : Int32), zx_u2 f 132 15 x 132 17 = f 132 17 := fun f x => zy_u2_nk (by omega)
  unfold zo_st at q0 q1
  refine sg_199_0 hY (zy_182 hY hT ht hi hM ?_)
  by_cases hd : zt_dig (zt_s T to i) = true
  · have hlt := zt_dig_lt hd
    rw [if_pos hd] at q0 q1 ⊢
    refine ⟨hY, fun h => absurd h (by decide), fun _ => ?_⟩
    dsimp only
    rw [hM.1.2, nI_1]
    have h17' : zx_u2 I 132 15 (nI (i + 1)) 132 17 = nI (4 - g) := by rw [zy_u2_nk (by omega)]; exact h17
    exact zy_198 (I := zx_u2 I 132 15 (nI (i + 1))) hY hT ht hg h200 (by omega) (by omega) (zt_M_at hM) h17' (fun h J hJ h15 => ⟨hY, Or.inl rfl, _, rfl, q0 h J (zy_fr_tr zo_15 hJ) h15⟩) (fun h J hJ h15 hn => ⟨hY, Or.inr rfl, _, rfl, q1 h J (zy_fr_tr zo_15 hJ) h15 hn⟩)
  · rw [if_neg hd] at q0 q1 ⊢
    refine ⟨hY, fun _ => zy_179 hY hT ht hi hM (s := 126) (by omega) ?_, fun h => absurd rfl h⟩
    split
    · rename_i h126
      have hlt := (zt_s_lt h126 (by omega)).1
      rw [if_pos h126] at q0 q1
      obtain ⟨u1, u2, u3, u4, u5, u6, u7⟩ := zt_run_ok (T := T) (to := to) 8 (i + 1) 0 (by omega) zy_dig_0 (by decide) (Nat.le_refl _)
      refine ⟨hY, fun h => absurd h (by decide), fun _ => zy_181 (I := zx_u2 I 132 15 (nI (i + 1))) hY hT ht (by omega) (zt_M_at hM) ⟨hY, ?_⟩⟩
      generalize zt_run T to 8 (i + 1) 0 = w at *
      have fr1 : zy_fr zw_om I (zx_u2 (zx_u2 I 132 15 (nI (i + 1))) 132 15 (nI w.2)) := zy_fr_tr zo_15 zo_15
      dsimp only
      rw [zy_le0 (by omega)]
      refine ⟨fun h => ⟨_, rfl, ?_⟩, fun h => ?_⟩
      · rw [if_pos h] at q0
        exact q0 rfl _ fr1 (by rw [zy_u2_self])
      · rw [if_neg h] at q0 q1
        refine zy_198 (I := zx_u2 (zx_u2 I 132 15 (nI (i + 1))) 132 15 (nI w.2)) hY hT ht hg h200 (by omega) (by omega) (zt_M_at (zt_M_at hM)) ?_ (fun h J hJ h15 => ⟨hY, fun _ => ⟨_, rfl, q0 h J (zy_fr_tr fr1 hJ) h15⟩, fun h => absurd rfl h⟩) (fun h J hJ h15 hn => ⟨hY, fun h => absurd h (by decide), fun _ => ⟨_, rfl, q1 h J (zy_fr_tr fr1 hJ) h15 hn⟩⟩)
        rw [zy_u2_nk (by omega), zy_u2_nk (by omega)]; exact h17
    · rename_i h126
      rw [if_neg h126] at q0 q1
      refine ⟨hY, fun _ => zy_179 hY hT ht hi hM (s := 42) (by omega) ?_, fun h => absurd rfl h⟩
      split
      · rename_i h42
        have e3 : zt_run T to 8 i 0 = (0, i) := by
          rw [zt_run, h42]; rfl
        rw [e3, if_pos h42] at q1
        refine ⟨hY, fun h => absurd h (by decide), fun _ => ⟨_, rfl, q1 rfl _ zo_15 (u15 I (nI (i + 1))) ((u17 I (nI (i + 1))).trans h17)⟩⟩
      · rename_i h42
        refine ⟨hY, fun _ => zy_181 hY hT ht hi hM ⟨hY, ?_⟩, fun h => absurd rfl h⟩
        rw [zy_len_0, Nat.zero_add] at r6
        generalize zt_run T to 8 i 0 = w at *
        dsimp only
        rw [zy_eq0 (by omega)]
        refine ⟨fun h => ?_, fun h => ⟨_, rfl, ?_⟩⟩
        · refine zy_179 (I := zx_u2 I 132 15 (nI w.2)) hY hT ht (by omega) (zt_M_at hM) (s := 42) (by omega) ?_
          split
          · rename_i h42b
            rw [if_pos h42b] at q1
            exact ⟨hY, _, rfl, q1 rfl _ (zy_fr_tr zo_15 zo_15) (u15 (zx_u2 I 132 15 (nI w.2)) (nI (w.2 + 1))) ((u17 (zx_u2 I 132 15 (nI w.2)) (nI (w.2 + 1))).trans ((u17 I (nI w.2)).trans h17))⟩
          · rename_i h42b
            rw [if_neg h42b, if_neg h] at q1
            exact ⟨hY, _, rfl, q1 rfl _ zo_15 (u15 I (nI w.2)) ((u17 I (nI w.2)).trans h17)⟩
        · have e : w.2 = i := by rw [h, zy_len_0] at r6; omega
          rw [e, if_neg h42, if_pos h] at q0
          rw [e]
          exact q0 rfl _ zo_15 (by rw [zy_u2_self])
theorem zo_m200_all (hY : zx_lay Y) (hT : ∀ j, j < to → T j < 256) (ht : to ≤ 80) : ∀ f g, g ≤ 4 → zo_m200 l E L Y T to f g := by
  have body : ∀ f g, g ≤ 4 → ∀ (d i : Nat) (I : Nat → Nat → Int32) (Q : Int32 → zx_M → Prop), to < f + i → i ≤ to → zt_M I T to i → I 132 17 = nI (4 - g) →
    ((zo_ps T to f g i).1 = false → ∀ J, zy_fr zw_om I J → J 132 15 = nI (zo_ps T to f g i).2.1 → Q 0 (J, L, Y)) →
    ((zo_ps T to f g i).1 = true → ∀ J, zy_fr zw_om I J → J 132 15 = nI (zo_ps T to f g i).2.1 → J 132 17 = nI (4 - g) → Q 1 (J, L, Y)) →
    zx_Ci l E (d + 3 * g + 3) 199 [.ref 132] (I, L, Y) (fun v2 M1 => zx_lay M1.2.2 ∧ zx_To l E (d + 3 * g + 3 + 1) 200 5 [some (.ref 132), some (.int v2)] [] (M1.1, M1.2.1, M1.2.2) (fun r M' => ∃ v, r = some (.int v) ∧ Q v M')) := by
    intro f
    induction f with
    | zero => intro g hg d i I Q h1 h2; omega
    | succ f ih =>
      intro g hg d i I Q hf hi hM h17 q0 q1
      have h200 : ∀ g', g' ≤ 4 → zo_m200 l E L Y T to f g' := fun g' hg' d' i' I' Q' k1 k2 k3 k4 k5 k6 => sg_200_0 hY (ih g' hg' d' i' I' Q' k1 k2 k3 k4 k5 k6)
      have sok := zo_st_ok (T := T) (to := to) (g := g) (i := i) (rb := zo_ps T to f (g - 1)) hi (fun k hk => zo_ps_ok f (g - 1) k hk)
      rw [zo_ps] at q0 q1
      refine zy_199 (f := f) hY hT ht hg (fun h0 => h200 (g - 1) (by omega)) (by omega) hi hM h17 (fun hb J hJ h15 => ⟨hY, ?_⟩) (fun hb J hJ h15 hn => ⟨hY, ?_⟩)
      · rw [if_neg (by rw [hb]; decide)] at q0
        exact sg_200_5 hY _ ⟨fun _ => ⟨Or.inl rfl, _, rfl, q0 rfl J hJ h15⟩, fun h => absurd rfl h⟩
      · obtain ⟨s1, s2, s3⟩ := sok
        have s3 := s3 hb
        rw [if_pos hb] at q0 q1
        generalize zo_st T to g (zo_ps T to f (g - 1)) i = w at *
        have MJ := zo_M hM ht hJ h15
        refine sg_200_5 hY _ ⟨fun h => absurd h (by decide), fun _ => zy_179 (I := J) hY hT ht s2 MJ (s := 59) (by omega) ?_⟩
        split
        · rename_i h59
          have hlt := (zt_s_lt h59 (by omega)).1
          rw [if_pos h59] at q0 q1
          refine ⟨hY, fun h => absurd h (by decide), fun _ => ?_⟩
          have h17' : zx_u2 J 132 15 (nI (w.2.1 + 1)) 132 17 = nI (4 - g) := by rw [zy_u2_nk (by omega)]; exact hn
          exact ih g hg d (w.2.1 + 1) (zx_u2 J 132 15 (nI (w.2.1 + 1))) Q (by omega) (by omega) (zt_M_at MJ) h17' (fun hb J' hJ' h15' => q0 hb J' (zy_fr_tr (zy_fr_tr hJ zo_15) hJ') h15') (fun hb J' hJ' h15' hn' => q1 hb J' (zy_fr_tr (zy_fr_tr hJ zo_15) hJ') h15' hn')
        · rename_i h59
          rw [if_neg h59] at q1
          exact ⟨hY, fun _ => ⟨Or.inr rfl, _, rfl, q1 rfl J hJ h15 hn⟩, fun h => absurd rfl h⟩
  intro f g hg d i I Q k1 k2 k3 k4 k5 k6
  exact sg_200_0 hY (body f g hg d i I Q k1 k2 k3 k4 k5 k6)
end YPm
