/-! ===== rename, keep, again ===== -/
def zy_pcf (g : Nat → Int32) : Nat → Nat → Int32 → Int32
  | 0, _, s => s
  | n + 1, c, s => if c = 0 then s else zy_pcf g n (c / 7) (s + g (c % 7 - 1))
/-- what a name costs -/
def zy_pc (g : Nat → Int32) (c : Nat) : Int32 := zy_pcf g 8 c 0
theorem zy_pcf_cong {g h : Nat → Int32} (hg : ∀ j, j < 6 → g j = h j) : ∀ (n c : Nat) (s : Int32), zy_dig c = true → zy_pcf g n c s = zy_pcf h n c s
  | 0, _, _, _ => rfl
  | n + 1, c, s, hd => by
    rw [zy_pcf, zy_pcf]
    split
    · rfl
    · rename_i h0
      rw [zy_dig_s h0, Bool.and_eq_true, decide_eq_true_eq] at hd
      rw [hg _ (by omega)]
      exact zy_pcf_cong hg n _ _ hd.2
theorem zy_pc_cong {g h : Nat → Int32} (hg : ∀ j, j < 6 → g j = h j) {c : Nat} (hd : zy_dig c = true) : zy_pc g c = zy_pc h c := zy_pcf_cong hg 8 c 0 hd
section YKp
variable {l : Launch} {E : zx_E} {d : Nat} {I : Nat → Nat → Int32} {L : Nat → Nat → Int64} {Y : zx_Y} {Qo : Option Value → zx_M → Prop} {Q : Int32 → zx_M → Prop} {Qv : zx_M → Prop}
theorem zy_c8_7 (hY : zx_lay Y) : ∀ (n b c : Nat) (s : Int32), b + n = 8 → c < 7 ^ n → zy_dig c = true → Qo (some (.int (zy_pcf (I 11) n c s))) (I, L, Y) → zx_To l E d 8 7 [some (.ref 8), none, some (.int s), some (.int (nI c)), some (.int (nI b)), none] [] (I, L, Y) Qo := by
  intro n
  induction n with
  | zero =>
    intro b c s hb hc hd hq
    exact sg_8_7 hY _ _ _ ⟨fun _ => hq, fun h1 => absurd ((zy_8 (by omega)).mpr (by omega)) h1⟩
  | succ n ih =>
    intro b c s hb hc hd hq
    have h31 : c < 2 ^ 31 := Nat.lt_of_lt_of_le hc (Nat.le_trans (Nat.pow_le_pow_right (by omega) (show n + 1 ≤ 8 by omega)) (by decide))
    rw [zy_pcf] at hq
    refine sg_8_7 hY _ _ _ ⟨fun h1 => absurd ((zy_8 (by omega)).mp h1) (by omega), fun _ => ⟨fun h1 => ?_, fun h1 => ⟨fun h2 => ?_, fun h2 => ?_⟩⟩⟩
    · rw [if_pos ((zy_le0 h31).mp h1)] at hq; exact hq
    all_goals have h0 : c ≠ 0 := fun e => h1 ((zy_le0 h31).mpr e)
    all_goals rw [if_neg h0] at hq
    all_goals rw [zy_dig_s h0, Bool.and_eq_true, decide_eq_true_eq] at hd
    · rw [zy_r7 h31, zy_le0 (by omega)] at h2; exact absurd h2 hd.1
    · have e1 : nI (c % 7) - 1 = nI (c % 7 - 1) := pk_sub (b := 1) (by omega)
      rw [zy_r7 h31, e1, zy_d7 h31, nI_1, nI_clamp (by omega)]
      exact ⟨vp_in_nI (by omega) (by omega), ih (b + 1) (c / 7) _ (by omega) (by rw [Nat.pow_succ] at hc; omega) hd.2 hq⟩
theorem zy_c8 (hY : zx_lay Y) {c : Nat} (hc : c < 5764801) (hd : zy_dig c = true) (hq : Q (zy_pc (I 11) c) (I, L, Y)) : zx_Ci l E d 8 [.ref 8, .int (nI c)] (I, L, Y) Q :=
  sg_8_0 hY _ (zy_c8_7 hY 8 0 c 0 rfl hc hd ⟨_, rfl, hq⟩)
theorem zy_208_4 (hY : zx_lay Y) : ∀ (n c : Nat) (s : Int32), n ≤ 8 → c < 7 ^ n → zy_dig c = true → Qo (some (.int (zy_pcf (I 137) n c s))) (I, L, Y) → zx_To l E d 208 4 [some (.ref 132), none, some (.int s), some (.int (nI c))] [] (I, L, Y) Qo := by
  intro n
  induction n with
  | zero =>
    intro c s hn hc hd hq
    have e : c = 0 := by simp at hc; exact hc
    subst e
    exact sg_208_4 hY _ _ ⟨fun _ => hq, fun h1 => absurd ((zy_le0 (by omega)).mpr rfl) h1⟩
  | succ n ih =>
    intro c s hn hc hd hq
    have h31 : c < 2 ^ 31 := Nat.lt_of_lt_of_le hc (Nat.le_trans (Nat.pow_le_pow_right (by omega) (show n + 1 ≤ 8 by omega)) (by decide))
    rw [zy_pcf] at hq
    refine sg_208_4 hY _ _ ⟨fun h1 => ?_, fun h1 => ?_⟩
    · rw [if_pos ((zy_le0 h31).mp h1)] at hq; exact hq
    · have h0 : c ≠ 0 := fun e => h1 ((zy_le0 h31).mpr e)
      rw [if_neg h0] at hq
      rw [zy_dig_s h0, Bool.and_eq_true, decide_eq_true_eq] at hd
      have e1 : nI (c % 7) - 1 = nI (c % 7 - 1) := pk_sub (b := 1) (by omega)
      rw [zy_r7 h31, e1, zy_d7 h31, nI_clamp (by omega)]
      exact ⟨vp_in_nI (by omega) (by omega), ih (c / 7) _ (by omega) (by rw [Nat.pow_succ] at hc; omega) hd.2 hq⟩
theorem zy_208 (hY : zx_lay Y) {c : Nat} (hc : c < 5764801) (hd : zy_dig c = true) (hq : Q (zy_pc (I 137) c) (I, L, Y)) : zx_Ci l E d 208 [.ref 132, .int (nI c)] (I, L, Y) Q :=
  sg_208_0 hY _ (zy_208_4 hY 8 c 0 (Nat.le_refl _) hc hd ⟨_, rfl, hq⟩)
theorem zj_rename (hY : zx_lay Y) {P S b r : Nat} {H : List (Nat × Nat)} (hC : zc_C I P S b r H) (hPr : zc_P I) {x y : Int32}
    (hq : ∀ v I' H', zc_C I' P S b r H' → zy_fr zw_S I I' → Q v (I', L, Y)) :
    zx_Ci l E (d + 2) 130 [.ref 3, .int x, .int y] (I, L, Y) (fun v M1 => zx_lay M1.2.2 ∧ zx_Ci l E (d + 2) 209 [.ref 132, .int x, .int y] M1 (fun w M2 => w = v ∧ Q v M2)) := by
  have hC0 := hC
  obtain ⟨⟨hP, h7, h3⟩, his, hn, hz, ⟨hS, h8⟩, -⟩ := hC
  have h3' : zx_u2 I 132 0 0 132 3 = nI P := h3
  have keep : zc_C (zx_u2 I 132 0 0) P S b r H := zc_C_cong hC0 (zy_fr_on zy_thr_fr (by decide))
  have kfr : zy_fr zw_S I (zx_u2 I 132 0 0) := zy_fr_mono zy_thr_fr (by decide)
  refine sg_130_0 hY _ _ (zy_1 hY hP h7 ⟨hY, fun h1 => ⟨_, rfl, hY, ?_⟩, fun h1 => zy_160 hY ⟨hY, fun h2 => ?_, fun h2 => ⟨_, rfl, hY, ?_⟩⟩⟩)
  · rw [zy_b0] at h1
    refine sg_209_0 hY _ _ (zy_175 hY hP h3' ⟨hY, fun _ => ⟨_, rfl, rfl, hq _ _ H keep kfr⟩, fun h => ?_⟩)
    rw [zy_b1, h1] at h; cases h
  · rw [zy_b1] at h1 h2
    have h1' := h1
    have h2' := h2
    obtain ⟨p, hp, rfl⟩ := zy_one_at h1 (by omega)
    obtain ⟨c, rfl, hc, hd⟩ := zy_is_of h2
    have vi := vp_in_nI (n := p) (N := 10) (by omega) (by omega)
    refine ⟨vi, zy_c11 hY ⟨hY, ?_⟩⟩
    rw [nI_clamp (by omega)]
    refine zy_c8 hY hc hd ⟨hY, _, rfl, hY, ?_⟩
    generalize hI1 : zx_u2 (zx_u2 I 9 p (nI c)) 8 5 0 = I1
    have hel : ∀ a k, 132 ≤ a → I1 a k = I a k := fun a k ha => by rw [← hI1, zy_u2_ne (by omega), zy_u2_ne (by omega)]
    have h31 : zx_u2 I1 132 0 0 132 3 = nI P := by rw [zy_u2_ne (by omega), hel 132 3 (by omega)]; exact h3
    refine sg_209_0 hY _ _ (zy_175 (I := zx_u2 I1 132 0 0) hY hP h31 ⟨hY, fun h => ?_, fun _ => zy_172 hY ⟨hY, fun _ => ⟨vi, ?_⟩, fun h => ?_⟩⟩)
    · rw [zy_b0, h1'] at h; cases h
    · rw [nI_clamp (by omega)]
      refine zy_208 hY hc hd ⟨hY, _, rfl, ?_, hq _ (zx_u2 (zx_u2 (zx_u2 I1 132 0 0) 134 p (nI c)) 132 10 0) [] ?_ ?_⟩
      · refine zy_pc_cong (fun j hj => ?_) hd
        show zx_u2 (zx_u2 (zx_u2 I1 132 0 0) 134 p (nI c)) 132 10 0 137 j = I1 11 j
        rw [zy_u2_ne (by omega), zy_u2_ne (by omega), zy_u2_ne (by omega), hel 137 j (by omega), ← hI1, zy_u2_ne (by omega), zy_u2_ne (by omega)]
        exact (hPr j hj).1
      · have key : ∀ q, q < 10 → (zx_u2 (zx_u2 (zx_u2 I1 132 0 0) 134 p (nI c)) 132 10 0) 9 q = if q = p then nI c else I 9 q := fun q hq => by
          rw [zy_u2_ne (by omega), zy_u2_ne (by omega), zy_u2_ne (by omega), ← hI1, zy_u2_ne (by omega)]
          by_cases e : q = p
          · subst e; rw [zy_u2_self, if_pos rfl]
          · rw [zy_u2_nk e, if_neg e]
        have oth : ∀ a k, a ≠ 9 → ¬ (a = 8 ∧ k = 5) → ¬ (a = 132 ∧ (k = 0 ∨ k = 10)) → a ≠ 134 → (zx_u2 (zx_u2 (zx_u2 I1 132 0 0) 134 p (nI c)) 132 10 0) a k = I a k := fun a k a1 a2 a3 a4 => by
          rw [zy_u2_ne (by omega), zy_u2_ne (by omega), zy_u2_ne (by omega), ← hI1, zy_u2_ne (by omega), zy_u2_ne (by omega)]
        refine zc_new hC0 (fun q hq => ?_) (fun q hq => ⟨?_, ?_, ?_⟩) (fun q hp1 hp2 => ⟨?_, ?_⟩) ⟨hS, ?_⟩ ?_ ?_ (fun a k hk => ?_)
        · rw [key q hq]
          split
          · exact h2'
          · exact his q hq
        · rw [key q (by omega), zy_u2_ne (by omega)]
          by_cases e : q = p
          · subst e; rw [zy_u2_self, if_pos rfl]
          · rw [zy_u2_nk e, if_neg e, zy_u2_ne (by omega), hel 134 q (by omega)]; exact (hn q hq).1
        · rw [oth 135 q (by omega) (by omega) (by omega) (by omega), oth 10 q (by omega) (by omega) (by omega) (by omega)]; exact (hn q hq).2.1
        · rw [oth 136 q (by omega) (by omega) (by omega) (by omega)]; exact (hn q hq).2.2
        · rw [key q hp2, if_neg (by omega)]; exact (hz q hp1 hp2).1
        · rw [oth 10 q (by omega) (by omega) (by omega) (by omega)]; exact (hz q hp1 hp2).2
        · rw [oth 8 8 (by omega) (by omega) (by omega) (by omega)]; exact h8
        · rw [zy_u2_ne (by omega), zy_u2_ne (by omega), zy_u2_ne (by omega), ← hI1, zy_u2_self]
        · rw [zy_u2_self]
        · have hin : (a = 8 ∧ 6 ≤ k ∧ k < 8) ∨ (a = 8 ∧ 9 ≤ k ∧ k < 10) ∨ (a = 132 ∧ 3 ≤ k ∧ k < 4) ∨ (a = 132 ∧ 8 ≤ k ∧ k < 9) := by
            obtain ⟨w, hw, e1, e2, e3⟩ := hk
            simp only [List.mem_cons, List.not_mem_nil, or_false] at hw
            rcases hw with rfl | rfl | rfl | rfl <;> simp at e1 e2 e3 <;> omega
          exact oth a k (by omega) (by omega) (by omega) (by omega)
      · rw [← hI1]
        refine zy_fr_u2 (zy_fr_u2 (zy_fr_u2 (zy_fr_u2 (zy_fr_u2 (zy_fr_rf _ _) ?_) ?_) ?_) ?_) ?_
        · exact zy_in_at 1 9 0 10 p rfl (by omega) (by omega)
        · exact zy_in_at 0 8 5 6 5 rfl (by omega) (by omega)
        · exact zy_in_at 2 132 0 1 0 rfl (by omega) (by omega)
        · exact zy_in_at 4 134 0 10 p rfl (by omega) (by omega)
        · exact zy_in_at 3 132 10 11 10 rfl (by omega) (by omega)
    · rw [zy_b0, h2'] at h; cases h
  · rw [zy_b1] at h1
    rw [zy_b0] at h2
    refine sg_209_0 hY _ _ (zy_175 hY hP h3' ⟨hY, fun h => ?_, fun _ => zy_172 hY ⟨hY, fun h => ?_, fun _ => ⟨_, rfl, rfl, hq _ _ H keep kfr⟩⟩⟩)
    · rw [zy_b0, h1] at h; cases h
    · rw [zy_b1, h2] at h; cases h
/-- what is kept -/
def zc_Ki (I : Nat → Nat → Int32) (P i : Nat) : Prop := (I 131 i = 0 ∧ I 157 i = 0) ∨ (I 131 i = 1 ∧ I 157 i = 1 ∧
  (∀ p, p < 10 → zy_is (I (122 + i) p) = true ∧ I 158 (31 * i + p) = I (122 + i) p ∧ I 158 (31 * i + 10 + p) = I (126 + i) p ∧ (P ≤ p → I (122 + i) p = 0 ∧ I (126 + i) p = 0)) ∧
  (∃ S : Nat, S < 2 ^ P ∧ I 129 i = nI S ∧ ∀ p, p < 10 → I 158 (31 * i + 20 + p) = nI (if S.testBit p then 1 else 0)) ∧ I 158 (31 * i + 30) = I 130 i)
def zc_K (I : Nat → Nat → Int32) (P : Nat) : Prop := ∀ i, i < 3 → zc_Ki I P i
def zr_K : List (Nat × Nat × Nat) := [(122, 0, 10), (123, 0, 10), (124, 0, 10), (126, 0, 10), (127, 0, 10), (128, 0, 10), (129, 0, 3), (130, 0, 3), (131, 0, 3), (157, 0, 3), (158, 0, 93)]
theorem zc_Ki_cong {I I' : Nat → Nat → Int32} {P i : Nat} (hi : i < 3) (h : zc_Ki I P i) (f1 : ∀ p, p < 10 → I' (122 + i) p = I (122 + i) p ∧ I' (126 + i) p = I (126 + i) p) (f2 : I' 129 i = I 129 i ∧ I' 130 i = I 130 i ∧ I' 131 i = I 131 i ∧ I' 157 i = I 157 i) (f3 : ∀ k, 31 * i ≤ k → k < 31 * i + 31 → I' 158 k = I 158 k) : zc_Ki I' P i := by
  unfold zc_Ki at *
  rw [f2.1, f2.2.1, f2.2.2.1, f2.2.2.2]
  refine h.imp id (fun ⟨h1, h2, h3, ⟨S, h4, h5, h6⟩, h7⟩ => ⟨h1, h2, fun p hp => ?_, ⟨S, h4, h5, fun p hp => ?_⟩, ?_⟩)
  · rw [(f1 p hp).1, (f1 p hp).2, f3 _ (by omega) (by omega), f3 _ (by omega) (by omega)]; exact h3 p hp
  · rw [f3 _ (by omega) (by omega)]; exact h6 p hp
  · rw [f3 _ (by omega) (by omega)]; exact h7
theorem zc_K_cong {I I' : Nat → Nat → Int32} {P : Nat} (h : zc_K I P) (hf : ∀ a k, zy_in zr_K a k → I' a k = I a k) : zc_K I' P := by
  intro i hi
  refine zc_Ki_cong hi (h i hi) (fun p hp => ⟨?_, ?_⟩) ⟨?_, ?_, ?_, ?_⟩ (fun k h1 h2 => ?_)
  · rcases (show i = 0 ∨ i = 1 ∨ i = 2 by omega) with rfl | rfl | rfl
    · exact hf _ _ (zy_in_at 0 122 0 10 p rfl (by omega) hp)
    · exact hf _ _ (zy_in_at 1 123 0 10 p rfl (by omega) hp)
    · exact hf _ _ (zy_in_at 2 124 0 10 p rfl (by omega) hp)
  · rcases (show i = 0 ∨ i = 1 ∨ i = 2 by omega) with rfl | rfl | rfl
    · exact hf _ _ (zy_in_at 3 126 0 10 p rfl (by omega) hp)
    · exact hf _ _ (zy_in_at 4 127 0 10 p rfl (by omega) hp)
    · exact hf _ _ (zy_in_at 5 128 0 10 p rfl (by omega) hp)
  · exact hf _ _ (zy_in_at 6 129 0 3 i rfl (by omega) hi)
  · exact hf _ _ (zy_in_at 7 130 0 3 i rfl (by omega) hi)
  · exact hf _ _ (zy_in_at 8 131 0 3 i rfl (by omega) hi)
  · exact hf _ _ (zy_in_at 9 157 0 3 i rfl (by omega) hi)
  · exact hf _ _ (zy_in_at 10 158 0 93 k rfl (by omega) (by omega))
theorem zc_K_more {P P' : Nat} (h : zc_K I P) (hp : P ≤ P') : zc_K I P' := fun i hi => (h i hi).imp id (fun ⟨h1, h2, h3, ⟨S, h4, h5, h6⟩, h7⟩ => ⟨h1, h2, fun p q => ⟨(h3 p q).1, (h3 p q).2.1, (h3 p q).2.2.1, fun z => (h3 p q).2.2.2 (by omega)⟩, ⟨S, Nat.lt_of_lt_of_le h4 (Nat.pow_le_pow_right (by omega) hp), h5, h6⟩, h7⟩)
def zy_kp (I : Nat → Nat → Int32) (i : Nat) : Nat → Nat → Int32 := fun a k => if a = 131 ∧ k = i then 1 else if a = 130 ∧ k = i then I 8 10 else if a = 129 ∧ k = i then I 8 8 else if a = 126 + i ∧ k < 10 then I 10 k else if a = 122 + i ∧ k < 10 then I 9 k else I a k
theorem zy_k121 (hY : zx_lay Y) {i : Nat} (hi : i < 3) : Y.1 121 i = some (122 + i) ∧ Y.1 125 i = some (126 + i) := by
  rcases (show i = 0 ∨ i = 1 ∨ i = 2 by omega) with rfl | rfl | rfl
  · exact ⟨zx_lrf hY 121 121 0 122 rfl, zx_lrf hY 124 125 0 126 rfl⟩
  · exact ⟨zx_lrf hY 122 121 1 123 rfl, zx_lrf hY 125 125 1 127 rfl⟩
  · exact ⟨zx_lrf hY 123 121 2 124 rfl, zx_lrf hY 126 125 2 128 rfl⟩
theorem zy_kcell (hY : zx_lay Y) {i : Nat} (hi : i < 3) (J : Nat → Nat → Int32) : (zx_is (J, L, Y) (122 + i) 20 ∧ 10 ≤ zx_ln (J, L, Y) (122 + i)) ∧ (zx_is (J, L, Y) (126 + i) 20 ∧ 10 ≤ zx_ln (J, L, Y) (126 + i)) := by
  rcases (show i = 0 ∨ i = 1 ∨ i = 2 by omega) with rfl | rfl | rfl
  · exact ⟨⟨zx_lis hY 122 20 rfl rfl, zx_lle hY 122 10 rfl rfl (Nat.le_refl _)⟩, ⟨zx_lis hY 126 20 rfl rfl, zx_lle hY 126 10 rfl rfl (Nat.le_refl _)⟩⟩
  · exact ⟨⟨zx_lis hY 123 20 rfl rfl, zx_lle hY 123 10 rfl rfl (Nat.le_refl _)⟩, ⟨zx_lis hY 127 20 rfl rfl, zx_lle hY 127 10 rfl rfl (Nat.le_refl _)⟩⟩
  · exact ⟨⟨zx_lis hY 124 20 rfl rfl, zx_lle hY 124 10 rfl rfl (Nat.le_refl _)⟩, ⟨zx_lis hY 128 20 rfl rfl, zx_lle hY 128 10 rfl rfl (Nat.le_refl _)⟩⟩
theorem zy_n3 {x : Int32} (h1 : ¬ x < 0) (h2 : x < 3) : ∃ i : Nat, i < 3 ∧ x = nI i := by
  obtain ⟨c, hc, rfl⟩ := nI_of h1
  exact ⟨c, (nI_ltI (b := 3) hc (by omega)).mp h2, rfl⟩
theorem zy_cpy0 {f g : Nat → Int32} {j : Nat} : va_cpy f g 0 0 10 j = if j < 10 then f j else g j := by
  by_cases h : j < 10
  · rw [if_pos h]
    have := pk_cpy_in (f := f) (g := g) (sp := 0) (dp := 0) (n := 10) (j := j) (by omega) (by omega)
    rw [show 0 + (j - 0) = j by omega] at this
    exact this
  · rw [if_neg h]
    exact pk_cpy_out (f := f) (g := g) (sp := 0) (dp := 0) (n := 10) (j := j) (by omega)
end YKp
