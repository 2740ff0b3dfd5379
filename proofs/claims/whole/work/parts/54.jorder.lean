/-! ===== order: class = reference ===== -/
def zw_od : List (Nat × Nat × Nat) := [(4, 1, 6), (6, 1, 2), (7, 0, 12), (17, 6, 12), (18, 0, 60), (19, 0, 60), (20, 0, 60), (21, 0, 10), (8, 5, 9), (9, 0, 10), (10, 0, 10), (12, 0, 60), (13, 0, 60), (132, 0, 2), (132, 10, 11), (132, 14, 18), (132, 21, 26), (133, 0, 12), (134, 0, 10), (135, 0, 10), (136, 0, 10), (138, 0, 60), (139, 0, 60), (143, 0, 10)]
def zw_o0 : List (Nat × Nat × Nat) := [(4, 1, 6), (17, 6, 12), (18, 0, 60), (19, 0, 60), (20, 0, 60), (132, 0, 1), (132, 14, 18), (132, 21, 26)]
/-- the reference's memory behind the start of its reading; as it begins to do -/
def zo_B1 (I : zo_Me) (n : Nat) : zo_Me := zx_u2 (zx_u2 (zx_u2 (zx_u2 (zx_u2 I 132 0 0) 132 14 0) 132 15 0) 132 17 0) 132 16 (nI (min n 60))
def zo_B2 (I : zo_Me) : zo_Me := zx_u2 (zx_u2 (zx_u2 (zx_u2 (zx_u2 (zx_u2 I 132 21 0) 132 22 0) 132 23 0) 132 24 0) 132 25 0) 132 15 0
theorem zo_B1_fr {I : zo_Me} {n : Nat} : zy_fr [(132, 0, 1), (132, 14, 18)] I (zo_B1 I n) := by
  unfold zo_B1
  have g : ∀ k, 14 ≤ k → k < 18 → zy_in [(132, 0, 1), (132, 14, 18)] 132 k := fun k a b => zy_in_at 1 132 14 18 k rfl a b
  exact zy_fr_u2 (zy_fr_u2 (zy_fr_u2 (zy_fr_u2 (zy_fr_u2 (zy_fr_rf _ _) (zy_in_at 0 132 0 1 0 rfl (by omega) (by omega))) (g 14 (by omega) (by omega))) (g 15 (by omega) (by omega))) (g 17 (by omega) (by omega))) (g 16 (by omega) (by omega))
theorem zo_B2_fr {I : zo_Me} : zy_fr [(132, 15, 16), (132, 21, 26)] I (zo_B2 I) := by
  unfold zo_B2
  have g : ∀ k, 21 ≤ k → k < 26 → zy_in [(132, 15, 16), (132, 21, 26)] 132 k := fun k a b => zy_in_at 1 132 21 26 k rfl a b
  exact zy_fr_u2 (zy_fr_u2 (zy_fr_u2 (zy_fr_u2 (zy_fr_u2 (zy_fr_u2 (zy_fr_rf _ _) (g 21 (by omega) (by omega))) (g 22 (by omega) (by omega))) (g 23 (by omega) (by omega))) (g 24 (by omega) (by omega))) (g 25 (by omega) (by omega))) (zy_in_at 0 132 15 16 15 rfl (by omega) (by omega))
section YOr
variable {l : Launch} {E : zx_E} {d : Nat} {I : Nat → Nat → Int32} {L : Nat → Nat → Int64} {Y : zx_Y} {Qo : Option Value → zx_M → Prop} {Q : Int32 → zx_M → Prop} {Qv : zx_M → Prop} {T : Nat → Nat} {n : Nat}
theorem zy_206 (hY : zx_lay Y) (hk : zt_ok T n 60) (h14 : I 132 14 = nI n) (hT : ∀ j, j < n → I 140 j = nI (T j))
    (q0 : n ≠ 0 → ((zo_rd T n).1 && decide ((zo_rd T n).2.1 = n)) = false → ∀ J, zy_fr [(132, 0, 1), (132, 14, 18)] I J → J 132 14 = 0 → Q ((-1) - nI (zo_rd T n).2.1) (J, L, Y))
    (q1 : n ≠ 0 → (zo_rd T n).1 = true → (zo_rd T n).2.1 = n → zx_Cv l E (d + 19) 205 [.ref 132] (zo_B2 (zo_B1 I n), L, Y) (fun M3 => zx_lay M3.2.2 ∧ zx_To l E (d + 20) 206 82 [some (.ref 132), none, none, none] [] (M3.1, M3.2.1, M3.2.2) (fun r M' => ∃ v, r = some (.int v) ∧ Q v M')))
    (qe : n = 0 → zx_To l E (d + 20) 206 82 [some (.ref 132), none, none, none] [] (zo_B2 (zo_B1 I n), L, Y) (fun r M' => ∃ v, r = some (.int v) ∧ Q v M')) :
    zx_Ci l E (d + 20) 206 [.ref 132] (I, L, Y) Q := by
  have hn80 := hk.1
  have negs : ∀ k : Nat, k < 81 → ¬ (0 : Int32) ≤ (-1) - nI k := by decide
  have e14 : zx_u2 I 132 0 0 132 14 = nI n := by rw [zy_u2_nk (by omega)]; exact h14
  have b14 : zo_B1 I n 132 14 = 0 := by unfold zo_B1; rw [zy_u2_nk (by omega), zy_u2_nk (by omega), zy_u2_nk (by omega), zy_u2_self]
  have b15 : zo_B1 I n 132 15 = 0 := by unfold zo_B1; rw [zy_u2_nk (by omega), zy_u2_nk (by omega), zy_u2_self]
  have b16 : zo_B1 I n 132 16 = nI (min n 60) := by unfold zo_B1; rw [zy_u2_self]
  have b17 : zo_B1 I n 132 17 = 0 := by unfold zo_B1; rw [zy_u2_nk (by omega), zy_u2_self]
  have hM : zt_M (zo_B1 I n) T (min n 60) 0 := ⟨⟨b16, b15⟩, fun j hj => by
    rw [zy_fr_row zo_B1_fr 140 80 (by decide) (by omega)]; exact hT j (by omega)⟩
  refine sg_206_0 hY (sg_178_0 hY _ ⟨_, rfl, hY, ?_⟩)
  have emin : (if (60 : Int32) < nI n then (60 : Int32) else nI n) = nI (min n 60) := by
    by_cases h : 60 < n
    · rw [if_pos (show (60 : Int32) < nI n from (nI_ltI (a := 60) (by omega) (by omega)).mpr h), show min n 60 = 60 by omega]; rfl
    · rw [if_neg (show ¬ (60 : Int32) < nI n from fun q => h ((nI_ltI (a := 60) (by omega) (by omega)).mp q)), show min n 60 = n by omega]
  dsimp only
  rw [e14, emin]
  show (nI n = 0 → zx_To l E (d + 20) 206 23 [some (.ref 132), some (.int (nI n)), none, none] [] (zo_B1 I n, L, Y) _) ∧ (¬ nI n = 0 → zx_Ci l E (d + 19) 200 [.ref 132] (zo_B1 I n, L, Y) _)
  -- behind the reading
  have fin : ∀ (g : Bool) (J : zo_Me) (i : Nat), zy_fr zw_om (zo_B1 I n) J → J 132 15 = nI i → i ≤ min n 60 →
      ((g && decide (i = n)) = false → Q ((-1) - nI i) (J, L, Y)) →
      (g = true → i = n → J 132 17 = 0 → (n = 0 → zx_To l E (d + 20) 206 82 [some (.ref 132), none, none, none] [] (zo_B2 (zo_B1 I n), L, Y) (fun r M' => ∃ v, r = some (.int v) ∧ Q v M')) ∧ (n ≠ 0 → zx_Cv l E (d + 19) 205 [.ref 132] (zo_B2 (zo_B1 I n), L, Y) (fun M3 => zx_lay M3.2.2 ∧ zx_To l E (d + 20) 206 82 [some (.ref 132), none, none, none] [] (M3.1, M3.2.1, M3.2.2) (fun r M' => ∃ v, r = some (.int v) ∧ Q v M')))) →
      (g = true → J 132 17 = 0) →
      zx_To l E (d + 20) 206 28 [some (.ref 132), some (.int (nI n)), none, none] [.int (if g then 1 else 0)] (J, L, Y) (fun r M' => ∃ v, r = some (.int v) ∧ Q v M') := by
    intro g J i hJ h15 hi k0 k1 hg17
    refine sg_206_28 hY _ _ (zy_183 hY hn80 (by omega) rfl hi (by rw [zy_fr_at hJ 132 16 (by decide)]; exact b16) h15 ⟨hY, ?_⟩)
    by_cases hz : (g && decide (i = n)) = true
    · rw [if_pos hz]
      simp only [Bool.and_eq_true, decide_eq_true_eq] at hz
      obtain ⟨m1, m2⟩ := k1 hz.1 hz.2 (hg17 hz.1)
      have eB : zo_B2 J = zo_B2 (zo_B1 I n) := by
        funext a k
        by_cases z : zy_in [(132, 15, 16), (132, 21, 26)] a k
        · obtain ⟨w, hw, e1, e2, e3⟩ := z
          have ha : a = 132 ∧ (k = 15 ∨ k = 21 ∨ k = 22 ∨ k = 23 ∨ k = 24 ∨ k = 25) := by
            simp only [List.mem_cons, List.not_mem_nil, or_false] at hw
            rcases hw with rfl | rfl <;> simp at e1 e2 e3 <;> omega
          obtain ⟨rfl, hk⟩ := ha
          unfold zo_B2
          rcases hk with rfl | rfl | rfl | rfl | rfl | rfl <;> simp [zx_u2]
        · rw [zo_B2_fr a k z, zo_B2_fr a k z]
          by_cases z2 : zy_in zw_om a k
          · obtain ⟨w, hw, e1, e2, e3⟩ := z2
            have ha : a = 132 ∧ (k = 15 ∨ k = 17) := by
              simp only [zw_om, List.mem_cons, List.not_mem_nil, or_false] at hw
              rcases hw with rfl | rfl <;> simp at e1 e2 e3 <;> omega
            obtain ⟨rfl, rfl | rfl⟩ := ha
            · exact absurd (zy_in_at 0 132 15 16 15 rfl (by omega) (by omega)) z
            · rw [hg17 hz.1, b17]
          · exact hJ a k z2
      refine ⟨fun _ => ⟨fun h => ?_, fun h => ?_⟩, fun h => absurd (by decide) h⟩
      · show zx_To l E (d + 20) 206 82 [some (.ref 132), none, none, none] [] (zo_B2 J, L, Y) _
        rw [eB]
        exact m1 ((zy_le0 (by omega)).mp h)
      · show zx_Cv l E (d + 19) 205 [.ref 132] (zo_B2 J, L, Y) _
        rw [eB]
        exact m2 (fun z => h ((zy_le0 (by omega)).mpr z))
    · rw [if_neg hz]
      exact ⟨fun h => absurd h (negs i (by omega)), fun _ => ⟨_, rfl, k0 (by simpa using hz)⟩⟩
  rw [zy_eq0 (by omega)]
  refine ⟨fun h0 => sg_206_23 hY _ (fin true _ 0 (zy_fr_rf _ _) b15 (by omega) (fun h => ?_) (fun _ _ _ => ⟨qe, fun h => absurd h0 h⟩) (fun _ => b17)), fun h0 => ?_⟩
  · rw [decide_eq_true (show 0 = n by omega)] at h; cases h
  · have rok := zo_ps_ok (T := T) (to := min n 60) 61 4 0 (Nat.zero_le _)
    rw [show d + 19 = d + 3 + 3 * 4 + 4 by omega]
    refine zo_m200_all (T := T) (to := min n 60) hY (fun j hj => hk.2.2 j (by omega)) (by omega) 61 4 (Nat.le_refl _) (d + 3) 0 _ _ (by omega) (Nat.zero_le _) hM b17 (fun hb J hJ h15 => ⟨hY, fun _ => ?_, fun h => absurd rfl h⟩) (fun hb J hJ h15 h17 => ⟨hY, fun h => absurd h (by decide), fun _ => ?_⟩)
    · refine fin false J _ hJ h15 rok.2 (fun _ => q0 h0 ?_ J (zy_fr_tr zo_B1_fr (zy_fr_mono hJ (by decide))) ?_) (fun h => by cases h) (fun h => by cases h)
      · unfold zo_rd; rw [hb]; rfl
      · rw [zy_fr_at hJ 132 14 (by decide)]; exact b14
    · refine sg_206_23 hY _ (fin true J _ hJ h15 rok.2 (fun h => q0 h0 ?_ J (zy_fr_tr zo_B1_fr (zy_fr_mono hJ (by decide))) ?_) (fun _ hin _ => ⟨fun h => absurd h h0, fun _ => q1 h0 hb hin⟩) (fun _ => h17))
      · rw [show (zo_rd T n).1 = true from hb]; exact h
      · rw [zy_fr_at hJ 132 14 (by decide)]; exact b14
/-- what both tell behind it -/
theorem zo_tailC (hY : zx_lay Y) {J : zo_Me} {e : Bool} (he : J 17 11 = if e then 1 else 0) (hq : Q (J 17 8) (zy_tell J [J 17 7, J 17 9, if e then 1 else 0], L, Y)) :
    zx_Cv l E d 81 [.ref 6] (J, L, Y) (fun M6 => zx_lay M6.2.2 ∧ zx_Cv l E d 82 [.ref 6, .int (M6.1 17 7)] (M6.1, M6.2.1, M6.2.2) (fun M7 => zx_lay M7.2.2 ∧ zx_Cv l E d 82 [.ref 6, .int (M7.1 17 9)] (M7.1, M7.2.1, M7.2.2) (fun M8 => zx_lay M8.2.2 ∧ (((M8.1 17 11) = (0 : Int32) → zx_Cv l E d 82 [.ref 6, .int (0 : Int32)] (M8.1, M8.2.1, M8.2.2) (fun M9 => zx_lay M9.2.2 ∧ ∃ v, some (.int (M9.1 17 8)) = some (Value.int v) ∧ Q v (M9.1, M9.2.1, M9.2.2))) ∧ ((¬ (M8.1 17 11) = (0 : Int32)) → zx_Cv l E d 82 [.ref 6, .int (1 : Int32)] (M8.1, M8.2.1, M8.2.2) (fun M10 => zx_lay M10.2.2 ∧ ∃ v, some (.int (M10.1 17 8)) = some (Value.int v) ∧ Q v (M10.1, M10.2.1, M10.2.2))))))) := by
  have el : ∀ vs k, zy_tell J vs 17 k = J 17 k := fun vs k => zy_tell_el (by omega)
  refine zy_81 hY ⟨hY, ?_⟩
  dsimp only
  rw [el]
  refine zy_82 hY (by simp) ⟨hY, ?_⟩
  dsimp only
  rw [el]
  refine zy_82 hY (by simp) ⟨hY, ?_⟩
  dsimp only
  rw [el, he]
  refine ⟨fun h => zy_82 hY (by simp) ⟨hY, _, rfl, ?_⟩, fun h => zy_82 hY (by simp) ⟨hY, _, rfl, ?_⟩⟩
  · rw [zy_b0] at h
    subst h
    dsimp only
    rw [el]
    exact hq
  · rw [zy_b1] at h
    subst h
    dsimp only
    rw [el]
    exact hq
theorem zo_tailM (hY : zx_lay Y) {J : zo_Me} {e : Bool} (he : J 132 25 = if e then 1 else 0) (hq : Q (J 132 22) (zy_ent J [J 132 21, J 132 23, if e then 1 else 0], L, Y)) :
    zx_To l E (d + 1) 206 82 [some (.ref 132), none, none, none] [] (J, L, Y) (fun r M' => ∃ v, r = some (.int v) ∧ Q v M') := by
  have el : ∀ vs k, 2 ≤ k → zy_ent J vs 132 k = J 132 k := fun vs k hk => zy_ent_el (by omega)
  refine sg_206_82 hY ?_
  rw [zy_ent_nil]
  refine zy_170 hY (by simp) ⟨hY, ?_⟩
  dsimp only
  rw [el _ _ (by omega)]
  refine zy_170 hY (by simp) ⟨hY, ?_⟩
  dsimp only
  rw [el _ _ (by omega), he]
  refine zy_169b hY ⟨hY, zy_170 hY (by simp) ⟨hY, _, rfl, ?_⟩⟩
  dsimp only
  rw [el _ _ (by omega)]
  have e1 : nI (if e then 1 else 0) = (if e then (1 : Int32) else 0) := by cases e <;> rfl
  rw [e1]
  exact hq
theorem zj_order (hY : zx_lay Y) {P S b r : Nat} {H : List (Nat × Nat)} {vs : List Int32} (hC : zc_C I P S b r H) (hT : zc_T I n) (hR : zc_R I vs)
    (hq : ∀ v I' S' r' H' vs', zc_C I' P S' b r' H' → zc_T I' 0 → zc_R I' vs' → zy_fr zw_od I I' → Q v (I', L, Y)) :
    zx_Ci l E (d + 20) 128 [.ref 3] (I, L, Y) (fun v M1 => zx_lay M1.2.2 ∧ zx_Ci l E (d + 20) 206 [.ref 132] M1 (fun w M2 => w = v ∧ Q v M2)) := by
  obtain ⟨t1, t2, t3, t4⟩ := hT
  generalize hTT : (fun j => zy_n (I 5 j)) = T
  have eT : ∀ j, j < n → I 5 j = nI (T j) ∧ T j < 256 := fun j hj => by
    obtain ⟨v, hv, e⟩ := (t4 j hj).2
    rw [← hTT]
    show I 5 j = nI (zy_n (I 5 j)) ∧ zy_n (I 5 j) < 256
    rw [e, zy_n_nI (by omega)]; exact ⟨rfl, hv⟩
  have hk : zt_ok T n 60 := ⟨t1, by omega, fun j hj => (eT j hj).2⟩
  have negs : ∀ k : Nat, k < 81 → ¬ (-1 : Int32) - nI k = 0 := by decide
  have rok := zo_ps_ok (T := T) (to := min n 60) 61 4 0 (Nat.zero_le _)
  have cut : ∀ (J : zo_Me) (K : Int32 → zx_M → Prop), zy_fr zw_or I J → K 1 (zx_u2 J 4 1 0, L, Y) → zx_Ci l E (d + 19) 110 [.ref 4, .int 0] (J, L, Y) K := fun J K hJ hK => by
    refine zy_110 hY t1 (by rw [zy_fr_at hJ 4 1 (by decide)]; exact t2) ?_
    have : zy_one (n + 1) 0 = true := by unfold zy_one; rw [zy_i0]; exact decide_eq_true (by omega)
    rw [this]; exact hK
  have elm : ∀ J : zo_Me, zy_fr zw_or I J → ∀ a k, 132 ≤ a → J a k = I a k := fun J hJ a k ha => hJ a k (fun ⟨w, hw, e1, e2, e3⟩ => by
    simp only [zw_or, List.mem_cons, List.not_mem_nil, or_false] at hw
    rcases hw with rfl | rfl | rfl | rfl | rfl <;> simp at e1 <;> omega)
  -- the reference, from any memory whose reference cells are those of I
  have model : ∀ (J : zo_Me) (K : Int32 → zx_M → Prop), (∀ a k, 132 ≤ a → J a k = I a k) → _ → _ → _ → zx_Ci l E (d + 20) 206 [.ref 132] (J, L, Y) K := fun J K hJ k0 k1 ke =>
    zy_206 (T := T) hY hk (by rw [hJ _ _ (by omega)]; exact t3) (fun j hj => by rw [hJ _ _ (by omega), ← (t4 j hj).1]; exact (eT j hj).1) k0 k1 ke
  have f41 : ∀ J : zo_Me, zy_fr zw_or I J → zy_fr zw_o0 I (zx_u2 J 4 1 0) := fun J hJ => zy_fr_u2 (zy_fr_mono hJ (by decide)) (zy_in_at 0 4 1 6 1 rfl (by omega) (by omega))
  refine sg_128_0 hY ?_
  rw [show d + 19 = d + 2 + 17 by omega]
  refine zy_c60 (T := T) hY hk t2 (fun j hj => (eT j hj).1) (fun hn0 J hJ j6 => ⟨hY, ?_⟩) (fun hn0 hf J hJ => ⟨hY, ?_⟩) (fun hn0 hb hin J hJ j6 hA hle => ⟨hY, ?_⟩)
  · -- nothing is told
    rw [show d + 2 + 17 = d + 19 by omega]
    refine cut J _ hJ ⟨hY, fun _ => sg_65_0 hY ?_, fun h => absurd rfl h⟩
    have e6 : zx_u2 J 4 1 0 17 6 = 0 := by rw [zy_u2_na (by omega)]; exact j6
    dsimp only
    rw [e6]
    refine sg_66_0 hY _ _ _ (sg_66_14 hY _ _ _ _ ⟨fun h => absurd h (by decide), fun _ => ⟨fun h => absurd h (by decide), fun _ => ⟨fun _ => ⟨rfl, hY, rfl, hY, ?_⟩, fun h => absurd (by decide) h⟩⟩⟩)
    generalize hAA : zx_u2 (zx_u2 (zx_u2 (zx_u2 (zx_u2 (zx_u2 J 4 1 0) 17 7 0) 17 8 0) 17 9 0) 17 10 0) 17 11 0 = AA
    have g17 : ∀ k, 7 ≤ k → k < 12 → AA 17 k = 0 := fun k k1 k2 => by
      rw [← hAA]
      rcases (show k = 7 ∨ k = 8 ∨ k = 9 ∨ k = 10 ∨ k = 11 by omega) with rfl | rfl | rfl | rfl | rfl <;> simp [zx_u2]
    have i17 : ∀ k, 6 ≤ k → k < 12 → zy_in zw_o0 17 k := fun k a b => zy_in_at 1 17 6 12 k rfl a b
    have frA : zy_fr zw_o0 I AA := by
      rw [← hAA]
      exact zy_fr_u2 (zy_fr_u2 (zy_fr_u2 (zy_fr_u2 (zy_fr_u2 (f41 J hJ) (i17 7 (by omega) (by omega))) (i17 8 (by omega) (by omega))) (i17 9 (by omega) (by omega))) (i17 10 (by omega) (by omega))) (i17 11 (by omega) (by omega))
    have hiA : ∀ a k, 132 ≤ a → AA a k = I a k := fun a k ha => by
      rw [← hAA, zy_u2_na (by omega), zy_u2_na (by omega), zy_u2_na (by omega), zy_u2_na (by omega), zy_u2_na (by omega), zy_u2_na (by omega)]; exact elm J hJ a k ha
    refine zo_tailC (L := L) (Q := fun v M1 => zx_lay M1.2.2 ∧ zx_Ci l E (d + 20) 206 [.ref 132] M1 (fun w M2 => w = v ∧ Q v M2)) (e := false) hY (g17 11 (by omega) (by omega)) ?_
    dsimp only
    rw [g17 7 (by omega) (by omega), g17 8 (by omega) (by omega), g17 9 (by omega) (by omega)]
    refine ⟨hY, model _ _ (fun a k ha => by rw [zy_tell_el (by omega)]; exact hiA a k ha) (fun h => absurd hn0 h) (fun h => absurd hn0 h) (fun _ => ?_)⟩
    generalize hMM : zy_tell AA [0, 0, if false then 1 else 0] = MM
    have frM : zy_fr zw_od I MM := by
      rw [← hMM]
      exact zy_fr_tr (zy_fr_mono frA (by decide)) (zy_fr_mono (zy_tell_fr (zy_fr_rf _ _) (by simp)) (by decide))
    have g132 : ∀ k, 21 ≤ k → k < 26 → zo_B2 (zo_B1 MM n) 132 k = 0 := fun k k1 k2 => by
      unfold zo_B2
      rcases (show k = 21 ∨ k = 22 ∨ k = 23 ∨ k = 24 ∨ k = 25 by omega) with rfl | rfl | rfl | rfl | rfl <;> simp [zx_u2]
    refine zo_tailM (e := false) hY (g132 25 (by omega) (by omega)) ?_
    rw [g132 21 (by omega) (by omega), g132 22 (by omega) (by omega), g132 23 (by omega) (by omega)]
    have frB : zy_fr [(132, 0, 1), (132, 14, 18), (132, 21, 26)] MM (zo_B2 (zo_B1 MM n)) := zy_fr_tr (zy_fr_mono zo_B1_fr (by decide)) (zy_fr_mono zo_B2_fr (by decide))
    have frE : zy_fr zw_R (zo_B2 (zo_B1 MM n)) (zy_ent (zo_B2 (zo_B1 MM n)) [0, 0, if false then 1 else 0]) := zy_ent_fr (zy_fr_rf _ _) (by simp)
    have frT : zy_fr zw_R AA MM := by rw [← hMM]; exact zy_tell_fr (zy_fr_rf _ _) (by simp)
    have frC : zy_fr (zw_o0 ++ zw_R) I (zy_ent (zo_B2 (zo_B1 MM n)) [0, 0, if false then 1 else 0]) := zy_fr_tr (zy_fr_tr (zy_fr_tr (zy_fr_mono frA (by decide)) (zy_fr_mono frT (by decide))) (zy_fr_mono frB (by decide))) (zy_fr_mono frE (by decide))
    refine ⟨rfl, hq _ _ S r H [0, 0, if false then 1 else 0] (zc_C_cong hC (zy_fr_on frC (by decide))) ⟨Nat.zero_le _, ?_, ?_, fun j hj => absurd hj (Nat.not_lt_zero _)⟩ (zc_R_tell (I := AA) (by simp) (fun a k ha => ?_)) (zy_fr_mono frC (by decide))⟩
    · rw [zy_fr_at frE 4 1 (by decide), zy_fr_at frB 4 1 (by decide), zy_fr_at frT 4 1 (by decide), ← hAA]; simp [zx_u2, nI_0]
    · rw [zy_fr_at frE 132 14 (by decide), zy_fr_at zo_B2_fr 132 14 (by decide)]; unfold zo_B1; simp [zx_u2, nI_0]
    · have : ¬ zy_in [(132, 0, 1), (132, 14, 18), (132, 21, 26)] a k := fun ⟨w, hw, e1, _⟩ => by
        simp only [List.mem_cons, List.not_mem_nil, or_false] at hw
        rcases hw with rfl | rfl | rfl <;> simp at e1 <;> omega
      rw [frB a k this, ← hMM]
  · -- it can't be read
    rw [show d + 2 + 17 = d + 19 by omega]
    refine cut J _ hJ ⟨hY, fun h => absurd h (negs _ (by unfold zo_rd; omega)), fun _ => ⟨_, rfl, hY, ?_⟩⟩
    refine model (zx_u2 J 4 1 0) _ (fun a k ha => by rw [zy_u2_na (by omega)]; exact elm J hJ a k ha) (fun _ _ J' hJ' h14 => ⟨rfl, ?_⟩) (fun _ hb hin => ?_) (fun h => absurd h hn0)
    · have f2 : zy_fr zw_o0 I J' := zy_fr_tr (f41 J hJ) (zy_fr_mono hJ' (by decide))
      refine hq _ _ S r H vs (zc_C_cong hC (zy_fr_on f2 (by decide))) ⟨Nat.zero_le _, ?_, ?_, fun j hj => absurd hj (Nat.not_lt_zero _)⟩ (zc_R_cong hR (zy_fr_on f2 (by decide))) (zy_fr_mono f2 (by decide))
      · rw [zy_fr_at hJ' 4 1 (by decide), zy_u2_self]; rfl
      · rw [h14]; rfl
    · rw [hb, hin] at hf; simp at hf
  · -- it is done
    rw [show d + 2 + 17 = d + 19 by omega]
    have hn60 : n ≤ 60 := by have : (zo_rd T n).2.1 ≤ min n 60 := rok.2; omega
    refine cut J _ hJ ⟨hY, fun _ => sg_65_0 hY ?_, fun h => absurd rfl h⟩
    have e6 : zx_u2 J 4 1 0 17 6 = nI (zo_rd T n).2.2.length := by rw [zy_u2_na (by omega)]; exact j6
    dsimp only
    rw [e6]
    generalize hAA : zx_u2 (zx_u2 (zx_u2 (zx_u2 (zx_u2 (zx_u2 J 4 1 0) 17 7 0) 17 8 0) 17 9 0) 17 10 0) 17 11 0 = AA
    have g17 : ∀ k, 7 ≤ k → k < 12 → AA 17 k = 0 := fun k k1 k2 => by
      rw [← hAA]
      rcases (show k = 7 ∨ k = 8 ∨ k = 9 ∨ k = 10 ∨ k = 11 by omega) with rfl | rfl | rfl | rfl | rfl <;> simp [zx_u2]
    have i17 : ∀ k, 6 ≤ k → k < 12 → zy_in zw_o0 17 k := fun k a b => zy_in_at 1 17 6 12 k rfl a b
    have frA : zy_fr zw_o0 I AA := by
      rw [← hAA]
      exact zy_fr_u2 (zy_fr_u2 (zy_fr_u2 (zy_fr_u2 (zy_fr_u2 (f41 J hJ) (i17 7 (by omega) (by omega))) (i17 8 (by omega) (by omega))) (i17 9 (by omega) (by omega))) (i17 10 (by omega) (by omega))) (i17 11 (by omega) (by omega))
    have hiA : ∀ a k, 132 ≤ a → AA a k = I a k := fun a k ha => by
      rw [← hAA, zy_u2_na (by omega), zy_u2_na (by omega), zy_u2_na (by omega), zy_u2_na (by omega), zy_u2_na (by omega), zy_u2_na (by omega)]; exact elm J hJ a k ha
    have r1820 : ∀ a k, a = 18 ∨ a = 19 ∨ a = 20 → AA a k = J a k := fun a k ha => by
      rw [← hAA, zy_u2_na (by omega), zy_u2_na (by omega), zy_u2_na (by omega), zy_u2_na (by omega), zy_u2_na (by omega), zy_u2_na (by omega)]
    have A41 : AA 4 1 = 0 := by rw [← hAA]; simp [zx_u2]
    clear hAA
    have frB : zy_fr [(132, 0, 1), (132, 14, 18), (132, 21, 26)] I (zo_B2 (zo_B1 I n)) := zy_fr_tr (zy_fr_mono zo_B1_fr (by decide)) (zy_fr_mono zo_B2_fr (by decide))
    have g132 : ∀ k, 21 ≤ k → k < 26 → zo_B2 (zo_B1 I n) 132 k = 0 := fun k k1 k2 => by
      unfold zo_B2
      rcases (show k = 21 ∨ k = 22 ∨ k = 23 ∨ k = 24 ∨ k = 25 by omega) with rfl | rfl | rfl | rfl | rfl <;> simp [zx_u2]
    have b15 : zo_B2 (zo_B1 I n) 132 15 = 0 := by unfold zo_B2; rw [zy_u2_self]
    have b16 : zo_B2 (zo_B1 I n) 132 16 = nI (min n 60) := by rw [zy_fr_at zo_B2_fr 132 16 (by decide)]; unfold zo_B1; rw [zy_u2_self]
    have b14 : zo_B2 (zo_B1 I n) 132 14 = 0 := by rw [zy_fr_at zo_B2_fr 132 14 (by decide)]; unfold zo_B1; simp [zx_u2]
    -- the joint memory
    generalize hJ0 : zy_mix AA (zo_B2 (zo_B1 I n)) = J0
    have lo0 : ∀ a k, a < 132 → J0 a k = AA a k := fun a k ha => by rw [← hJ0, zy_mix_lo ha]
    have hi0 : ∀ a k, 132 ≤ a → J0 a k = zo_B2 (zo_B1 I n) a k := fun a k ha => by rw [← hJ0, zy_mix_hi ha]
    have fr0 : zy_fr zw_o0 I J0 := fun a k hk => by
      by_cases ha : a < 132
      · rw [lo0 a k ha]; exact frA a k hk
      · rw [hi0 a k (by omega)]
        exact zy_fr_mono (W := zw_o0) frB (by decide) a k hk
    have hF0 : zo_F J0 T (min n 60) 0 (zo_rd T n).2.2 := by
      refine ⟨⟨?_, fun k hk => ?_⟩, zo_A_cong hA (fun k _ _ => ⟨?_, ?_, ?_⟩), by omega⟩
      · rw [hi0 _ _ (by omega)]; exact b16
      · rw [zy_fr_row fr0 140 80 (by decide) (by omega), ← (t4 k (by omega)).1]; exact (eT k (by omega)).1
      · rw [lo0 _ _ (by omega), r1820 _ _ (by omega)]
      · rw [lo0 _ _ (by omega), r1820 _ _ (by omega)]
      · rw [lo0 _ _ (by omega), r1820 _ _ (by omega)]
    have hX0 : zo_X J0 0 0 false := by
      refine ⟨⟨by omega, ?_, ?_⟩, ⟨by omega, ?_, ?_⟩, ⟨?_, ?_⟩, ?_, ?_⟩
      · rw [lo0 _ _ (by omega), g17 7 (by omega) (by omega)]; rfl
      · rw [hi0 _ _ (by omega), g132 21 (by omega) (by omega)]; rfl
      · rw [lo0 _ _ (by omega), g17 10 (by omega) (by omega)]; rfl
      · rw [hi0 _ _ (by omega), g132 24 (by omega) (by omega)]; rfl
      · rw [hi0 _ _ (by omega), lo0 _ _ (by omega), g132 22 (by omega) (by omega), g17 8 (by omega) (by omega)]
      · rw [hi0 _ _ (by omega), lo0 _ _ (by omega), g132 23 (by omega) (by omega), g17 9 (by omega) (by omega)]
      · rw [lo0 _ _ (by omega), g17 11 (by omega) (by omega)]; rfl
      · rw [hi0 _ _ (by omega), g132 25 (by omega) (by omega)]; rfl
    obtain ⟨J', c', u', e', ⟨S', r', H', hC'⟩, hX', fr', -, -, -, rC, rM⟩ := zs_steps (T := T) (to := min n 60) (P := P) (b := b) (by omega) (fun j hj => hk.2.2 j (by omega)) 61 4 0 0 J0 0 0 (Nat.le_refl _) (Nat.zero_le _) hb hF0 (by rw [hi0 _ _ (by omega), b15]; rfl) ⟨S, r, H, zc_C_cong hC (zy_fr_on fr0 (by decide))⟩ hX0
    obtain ⟨⟨x1, x2, x3⟩, -, ⟨z1, z2⟩, w1, w2⟩ := hX'
    refine sg_66_0 hY _ _ _ ?_
    rw [if_neg (fun h => by have := (nI_ltI (a := 60) (by omega) (by omega)).mp h; omega)]
    have eAA : AA = zy_mix J0 AA := zy_mix_eq (fun a k ha => (lo0 a k ha).symm) (fun _ _ _ => rfl)
    rw [eAA]
    have len0 : (0 : Nat) + (zo_ps T (min n 60) 61 4 0).2.2.length = (zo_rd T n).2.2.length := by rw [Nat.zero_add]; rfl
    rw [len0] at rC
    rw [show d + 18 = d + 3 * 4 + 6 by omega]
    refine rC 0 l E d AA L Y _ (Nat.zero_le _) hY ⟨rfl, hY, rfl, hY, ?_⟩
    have m7 : zy_mix J' AA 17 7 = nI c' := x2
    have m11 : zy_mix J' AA 17 11 = if e' then 1 else 0 := w1
    refine zo_tailC (L := L) (Q := fun v M1 => zx_lay M1.2.2 ∧ zx_Ci l E (d + 20) 206 [.ref 132] M1 (fun w M2 => w = v ∧ Q v M2)) (e := e') hY m11 ?_
    dsimp only
    rw [m7]
    show zx_lay Y ∧ zx_Ci l E (d + 20) 206 [.ref 132] (zy_tell (zy_mix J' AA) [nI c', J' 17 9, if e' then 1 else 0], L, Y) (fun w M2 => w = J' 17 8 ∧ Q (J' 17 8) M2)
    generalize hvs : [nI c', J' 17 9, if e' then (1 : Int32) else 0] = ws
    have hws : ws.length = 3 := by rw [← hvs]; rfl
    generalize hMM : zy_tell (zy_mix J' AA) ws = MM
    have hiM : ∀ a k, 132 ≤ a → MM a k = I a k := fun a k ha => by rw [← hMM, zy_tell_el (by omega), zy_mix_hi ha]; exact hiA a k ha
    refine ⟨hY, model MM _ hiM (fun _ hf => ?_) (fun _ _ _ => ?_) (fun h => absurd h hn0)⟩
    · rw [show (zo_rd T n).1 = true from hb, decide_eq_true hin] at hf; cases hf
    · have eB : zo_B2 (zo_B1 MM n) = zy_mix MM J0 := by
        refine zy_mix_eq (fun a k ha => ?_) (fun a k ha => ?_)
        · unfold zo_B2 zo_B1
          rw [zy_u2_na (by omega), zy_u2_na (by omega), zy_u2_na (by omega), zy_u2_na (by omega), zy_u2_na (by omega), zy_u2_na (by omega), zy_u2_na (by omega), zy_u2_na (by omega), zy_u2_na (by omega), zy_u2_na (by omega), zy_u2_na (by omega)]
        · rw [hi0 a k ha]
          unfold zo_B2 zo_B1 zx_u2
          rw [hiM a k ha]
      rw [eB]
      rw [show d + 19 = d + 5 + 2 * 4 + 5 + 1 by omega]
      refine sg_205_0 hY (rM l E (d + 5) MM L Y _ hY ⟨rfl, hY, ?_⟩)
      have n25 : zy_mix MM J' 132 25 = if e' then 1 else 0 := w2
      refine zo_tailM (e := e') hY n25 ?_
      have n21 : zy_mix MM J' 132 21 = nI c' := x3
      have n23 : zy_mix MM J' 132 23 = J' 17 9 := z2
      have n22 : zy_mix MM J' 132 22 = J' 17 8 := z1
      dsimp only
      rw [n21, n22, n23, hvs]
      refine ⟨rfl, ?_⟩
      have eF : zy_mix MM J' = zy_tell J' ws := by
        refine (zy_mix_eq (fun a k ha => ?_) (fun a k ha => ?_)).symm
        · rw [← hMM]; unfold zy_tell; rw [zy_mix_lo ha]
        · exact zy_tell_el (by omega)
      rw [eF]
      have frR : zy_fr zw_R J' (zy_ent (zy_tell J' ws) ws) := zy_ent_fr (zy_tell_fr (zy_fr_rf _ _) (by omega)) (by omega)
      have frAll : zy_fr zw_od I (zy_ent (zy_tell J' ws) ws) := zy_fr_tr (zy_fr_tr (zy_fr_mono fr0 (by decide)) (zy_fr_mono fr' (by decide))) (zy_fr_mono frR (by decide))
      refine hq _ _ S' r' H' ws (zc_C_cong hC' (zy_fr_on frR (by decide))) ⟨Nat.zero_le _, ?_, ?_, fun j hj => absurd hj (Nat.not_lt_zero _)⟩ (zc_R_tell (I := J') (by omega) (fun _ _ _ => rfl)) frAll
      · rw [zy_fr_at frR 4 1 (by decide), zy_fr_at fr' 4 1 (by decide), lo0 _ _ (by omega), A41]; rfl
      · rw [zy_fr_at frR 132 14 (by decide), zy_fr_at fr' 132 14 (by decide), hi0 _ _ (by omega), b14]; rfl
end YOr
