/-! ===== count, forget, sheet ===== -/
def zr_L : List (Nat × Nat × Nat) := [(117, 2, 4), (118, 0, 40), (119, 0, 40), (132, 36, 38), (151, 0, 40), (152, 0, 40)]
/-- what the listener heard -/
def zc_L (I : Nat → Nat → Int32) (m w : Nat) : Prop := (m ≤ 40 ∧ I 117 2 = nI m ∧ I 132 37 = nI m) ∧ (1 ≤ w ∧ w ≤ 6 ∧ I 117 3 = nI w ∧ I 132 36 = nI w) ∧
  ∀ t, t < m → I 151 t = I 118 t ∧ I 152 t = I 119 t ∧ zy_is (I 118 t) = true ∧ I 118 t ≠ 0 ∧ (I 119 t = 0 ∨ I 119 t = 1)
theorem zc_L_cong {I I' : Nat → Nat → Int32} {m w : Nat} (h : zc_L I m w) (hf : ∀ a k, zy_in zr_L a k → I' a k = I a k) : zc_L I' m w := by
  obtain ⟨⟨h1, h2, h3⟩, ⟨h4, h5, h6, h7⟩, h8⟩ := h
  refine ⟨⟨h1, ?_, ?_⟩, ⟨h4, h5, ?_, ?_⟩, fun t ht => ?_⟩
  · rw [hf 117 2 (zy_in_at 0 117 2 4 2 rfl (by omega) (by omega))]; exact h2
  · rw [hf 132 37 (zy_in_at 3 132 36 38 37 rfl (by omega) (by omega))]; exact h3
  · rw [hf 117 3 (zy_in_at 0 117 2 4 3 rfl (by omega) (by omega))]; exact h6
  · rw [hf 132 36 (zy_in_at 3 132 36 38 36 rfl (by omega) (by omega))]; exact h7
  · rw [hf 118 t (zy_in_at 1 118 0 40 t rfl (by omega) (by omega)), hf 119 t (zy_in_at 2 119 0 40 t rfl (by omega) (by omega)), hf 151 t (zy_in_at 4 151 0 40 t rfl (by omega) (by omega)), hf 152 t (zy_in_at 5 152 0 40 t rfl (by omega) (by omega))]
    exact h8 t ht
theorem zy_orN_self {S : Nat} : ∀ {P : Nat}, S < 2 ^ P → zy_orN (fun i => S.testBit i) P = S := by
  intro P h
  apply Nat.eq_of_testBit_eq
  intro i
  rw [zy_orN_bit]
  by_cases hi : i < P
  · rw [decide_eq_true hi, Bool.true_and]
  · rw [decide_eq_false hi, Bool.false_and]
    exact (Nat.testBit_lt_two_pow (Nat.lt_of_lt_of_le h (Nat.pow_le_pow_right (by omega) (by omega)))).symm
theorem zy_orN_not {p : Nat → Bool} : ∀ n, zy_orN (fun i => !p i) n = 2 ^ n - 1 - zy_orN p n
  | 0 => rfl
  | n + 1 => by
    have := zy_orN_lt p n
    rw [zy_orN, zy_orN, zy_orN_not n, Nat.pow_succ]
    cases p n <;> simp <;> omega
theorem zy_andn_all : ((List.range 11).all fun P => (List.range 1024).all fun c => !(decide (c < 2 ^ P)) || decide ((((1 : Int32) <<< (nI P &&& 31)) - 1) &&& (nI c ^^^ (-1)) = nI (2 ^ P - 1 - c))) = true := by decide +kernel
theorem zy_andn {P c : Nat} (hP : P ≤ 10) (hc : c < 2 ^ P) : (((1 : Int32) <<< (nI P &&& 31)) - 1) &&& (nI c ^^^ (-1)) = nI (2 ^ P - 1 - c) := by
  have hP2 : (2 : Nat) ^ P ≤ 1024 := Nat.pow_le_pow_right (by omega) hP
  have h := List.all_eq_true.mp (List.all_eq_true.mp zy_andn_all P (List.mem_range.mpr (by omega))) c (List.mem_range.mpr (by omega))
  rw [decide_eq_true hc] at h
  exact of_decide_eq_true h
def zy_cnt (p : Nat → Bool) : Nat → Nat
  | 0 => 0
  | n + 1 => zy_cnt p n + (if p n then 1 else 0)
theorem zy_cnt_cong {p q : Nat → Bool} : ∀ {n : Nat}, (∀ i, i < n → p i = q i) → zy_cnt p n = zy_cnt q n
  | 0, _ => rfl
  | n + 1, h => by rw [zy_cnt, zy_cnt, zy_cnt_cong (fun i hi => h i (by omega)), h n (by omega)]
theorem zy_cnt_ext {p : Nat → Bool} {m : Nat} : ∀ {n : Nat}, m ≤ n → (∀ i, m ≤ i → i < n → p i = false) → zy_cnt p n = zy_cnt p m
  | 0, h, _ => by rw [show m = 0 by omega]
  | n + 1, h, hp => by
    by_cases e : m = n + 1
    · rw [e]
    · rw [zy_cnt, hp n (by omega) (by omega)]
      exact zy_cnt_ext (by omega) (fun i h1 h2 => hp i h1 (by omega))
theorem zy_cnt_le {p : Nat → Bool} : ∀ n, zy_cnt p n ≤ n
  | 0 => Nat.le_refl _
  | n + 1 => by rw [zy_cnt]; have := zy_cnt_le (p := p) n; split <;> omega
theorem zy_pop_cnt (c : Nat) : zy_pop c = zy_cnt (fun i => c.testBit i) 10 := by
  have h : ∀ i, (if c.testBit i then 1 else 0) = c / 2 ^ i % 2 := fun i => by
    rw [Nat.testBit_eq_decide_div_mod_eq]
    have : c / 2 ^ i % 2 = 0 ∨ c / 2 ^ i % 2 = 1 := by omega
    rcases this with h | h <;> simp [h]
  simp only [zy_cnt, h]
  rfl
theorem zy_pop_orN (p : Nat → Bool) : zy_pop (zy_orN p 10) = zy_cnt p 10 := by
  rw [zy_pop_cnt]
  exact zy_cnt_cong (fun i hi => by rw [zy_orN_bit, decide_eq_true hi, Bool.true_and])
section YCn
variable {l : Launch} {E : zx_E} {d : Nat} {I : Nat → Nat → Int32} {L : Nat → Nat → Int64} {Y : zx_Y} {Qo : Option Value → zx_M → Prop} {Q : Int32 → zx_M → Prop} {Qv : zx_M → Prop}
theorem zy_211 (hY : zx_lay Y) {P : Nat} (hP : P ≤ 10) (hp : I 132 3 = nI P) (hq : Q (nI (zy_orN (fun p => decide (I 134 p ≠ 0)) P)) (I, L, Y)) : zx_Ci l E (d + 1) 211 [.ref 132] (I, L, Y) Q := by
  refine sg_211_0 hY (zy_189 hY hP hp ⟨hY, _, rfl, ?_⟩)
  rw [zy_or_nI _ P (by omega), hp, zy_andn hP (zy_orN_lt _ P), ← zy_orN_not]
  rw [zy_orN_cong (q := fun p => !decide (I 134 p = 0)) (fun i _ => by rw [decide_not])] at hq
  exact hq
theorem zc_named {P S b r : Nat} {H : List (Nat × Nat)} (hC : zc_C I P S b r H) : zy_orN (fun p => decide (I 134 p ≠ 0)) P = zy_orN (fun p => decide (I 9 p ≠ 0)) 10 := by
  obtain ⟨⟨hP, -⟩, -, hn, hz, -⟩ := hC
  rw [zy_orN_cong (q := fun p => decide (I 9 p ≠ 0)) (fun p hp => by rw [(hn p hp).1])]
  refine (zy_orN_ext hP (fun p h1 h2 => ?_)).symm
  exact decide_eq_false (fun q => q (hz p h1 h2).1)
theorem zy_260 (hY : zx_lay Y) {P S : Nat} (hP : P ≤ 10) (hp : I 132 3 = nI P) (hS : S < 2 ^ P) (hs : ∀ p, p < P → I 136 p = nI (if S.testBit p then 1 else 0)) (hq : Q (nI S) (I, L, Y)) : zx_Ci l E d 260 [.ref 132] (I, L, Y) Q := by
  refine sg_260_0 hY ?_
  rw [← zy_orN_self hS, ← zy_or_nI _ P (by omega)] at hq
  refine zy_down (n := P) (P := fun i => zx_To l E d 260 4 [some (.ref 132), some (.int (zy_or (fun i => S.testBit i) i)), some (.int (nI i))] [] (I, L, Y) _) ?_ (fun i hi ih => ?_)
  · refine sg_260_4 hY _ _ ⟨fun _ => ⟨_, rfl, hq⟩, fun h => absurd ?_ h⟩
    rw [hp]; exact (nI_leI (by omega) (by omega)).mpr (Nat.le_refl _)
  · refine sg_260_4 hY _ _ ⟨fun h => ?_, fun _ => ⟨vp_in_nI (by omega) (by omega), ?_⟩⟩
    · rw [hp, nI_leI (by omega) (by omega)] at h; omega
    rw [nI_1, nI_clamp (by omega), hs i hi]
    have e : zy_or (fun i => S.testBit i) i ||| (nI (if S.testBit i then 1 else 0) <<< (nI i &&& 31)) = zy_or (fun i => S.testBit i) (i + 1) := by
      rw [zy_or]
      cases S.testBit i
      · have : ∀ i : Nat, i < 10 → (nI 0 <<< (nI i &&& 31)) = 0 := by decide
        show _ ||| (nI 0 <<< (nI i &&& 31)) = _
        rw [this i (by omega), zy_or0]; rfl
      · rfl
    rw [e]; exact ih
theorem zy_261 (hY : zx_lay Y) {P : Nat} (hP : P ≤ 10) (hp : I 132 3 = nI P) (hq : Q (zy_sum (I 135) P) (I, L, Y)) : zx_Ci l E d 261 [.ref 132] (I, L, Y) Q := by
  refine sg_261_0 hY ?_
  refine zy_down (n := P) (P := fun i => zx_To l E d 261 4 [some (.ref 132), some (.int (zy_sum (I 135) i)), some (.int (nI i))] [] (I, L, Y) _) ?_ (fun i hi ih => ?_)
  · refine sg_261_4 hY _ _ ⟨fun _ => ⟨_, rfl, hq⟩, fun h => absurd ?_ h⟩
    rw [hp]; exact (nI_leI (by omega) (by omega)).mpr (Nat.le_refl _)
  · refine sg_261_4 hY _ _ ⟨fun h => ?_, fun _ => ⟨vp_in_nI (by omega) (by omega), ?_⟩⟩
    · rw [hp, nI_leI (by omega) (by omega)] at h; omega
    rw [nI_1, nI_clamp (by omega)]
    exact ih
theorem zj_count (hY : zx_lay Y) {P S b r n m w : Nat} {H : List (Nat × Nat)} {vs : List Int32} (hC : zc_C I P S b r H) (hT : zc_T I n) (hR : zc_R I vs) (hL : zc_L I m w) {x : Int32} (hq : ∀ v, Q v (zx_u2 I 132 0 0, L, Y)) :
    zx_Ci l E (d + 2) 153 [.ref 3, .int x] (I, L, Y) (fun v M1 => zx_lay M1.2.2 ∧ zx_Ci l E (d + 2) 262 [.ref 132, .int x] M1 (fun w M2 => w = v ∧ Q v M2)) := by
  have hnm := zc_named hC
  obtain ⟨⟨hP, h7, h3⟩, his, hn, hz, ⟨hS, h8⟩, -, ⟨hr, h6, hl, h5, h10⟩, -, -⟩ := hC
  have hno : ∀ y : Int32, ∀ k : Int, y.toInt = k → (0 ≤ k ∧ k ≤ 7) → ¬ (y.toInt < 0 ∨ 7 < y.toInt) := fun y k e h => by omega
  have model : ∀ v : Int32, ((x.toInt < 0 ∨ 7 < x.toInt) → v = -1) → (x.toInt = 0 → v = I 8 7) → (x.toInt = 1 → v = nI (zy_orN (fun p => decide (I 134 p ≠ 0)) P)) → (x.toInt = 2 → v = nI S) → (x.toInt = 3 → v = I 8 5) → (x.toInt = 4 → v = I 117 2) → (x.toInt = 5 → v = I 6 1) → (x.toInt = 6 → v = I 4 1) → (x.toInt = 7 → v = zy_sum (I 10) 10) → zx_Ci l E (d + 2) 262 [.ref 132, .int x] (I, L, Y) (fun w M2 => w = v ∧ Q v M2) := by
    intro v v0 v1 v2 v3 v4 v5 v6 v7 v8
    have h3' : zx_u2 I 132 0 0 132 3 = nI P := h3
    refine sg_262_0 hY _ ⟨fun h => ⟨_, rfl, ?_, hq _⟩, fun h => ⟨_, rfl, ?_, hq _⟩, fun h => zy_211 hY hP h3' ⟨hY, _, rfl, ?_, hq _⟩, fun h => zy_260 hY hP h3' hS (fun p hp => by rw [zy_u2_na (by omega)]; exact (hn p hp).2.2) ⟨hY, _, rfl, ?_, hq _⟩, fun h => ⟨_, rfl, ?_, hq _⟩, fun h => ⟨_, rfl, ?_, hq _⟩, fun h => ⟨_, rfl, ?_, hq _⟩, fun h => ⟨_, rfl, ?_, hq _⟩, fun h => zy_261 hY hP h3' ⟨hY, _, rfl, ?_, hq _⟩⟩
    · exact (v0 h).symm
    · rw [v1 h, h7, h3]
    · exact (v2 h).symm
    · exact (v3 h).symm
    · rw [v4 h, h5, h10]
    · rw [v5 h, hL.1.2.1, hL.1.2.2]
    · rw [v6 h, hR.2.1, hR.2.2.1]
    · rw [v7 h, hT.2.1, hT.2.2.1]
    · rw [v8 h, zy_sum_ext hP (fun i h1 h2 => (hz i h1 h2).2)]
      exact zy_sum_cong (fun i hi => by rw [zy_u2_na (by omega)]; exact (hn i hi).2.1)
  refine sg_153_0 hY _ ⟨fun h => ⟨_, rfl, hY, model _ ?_ ?_ ?_ ?_ ?_ ?_ ?_ ?_ ?_⟩, fun h => ⟨_, rfl, hY, model _ ?_ ?_ ?_ ?_ ?_ ?_ ?_ ?_ ?_⟩, fun h => zy_c4 hY ⟨hY, _, rfl, hY, model _ ?_ ?_ ?_ ?_ ?_ ?_ ?_ ?_ ?_⟩, fun h => ⟨_, rfl, hY, model _ ?_ ?_ ?_ ?_ ?_ ?_ ?_ ?_ ?_⟩, fun h => ⟨_, rfl, hY, model _ ?_ ?_ ?_ ?_ ?_ ?_ ?_ ?_ ?_⟩, fun h => ⟨_, rfl, hY, model _ ?_ ?_ ?_ ?_ ?_ ?_ ?_ ?_ ?_⟩, fun h => ⟨_, rfl, hY, model _ ?_ ?_ ?_ ?_ ?_ ?_ ?_ ?_ ?_⟩, fun h => ⟨_, rfl, hY, model _ ?_ ?_ ?_ ?_ ?_ ?_ ?_ ?_ ?_⟩, fun h => zy_c7 hY ⟨hY, _, rfl, hY, model _ ?_ ?_ ?_ ?_ ?_ ?_ ?_ ?_ ?_⟩⟩
  all_goals intro h2
  all_goals first | rfl | (exfalso; omega) | skip
  · rw [zy_or_nI _ 10 (by omega), hnm]
  · exact h8
theorem zj_forget (hY : zx_lay Y) {m w : Nat} (hL : zc_L I m w) (hq : ∀ v I' m', zc_L I' m' w → zy_fr [(117, 2, 3), (132, 0, 1), (132, 37, 38)] I I' → Q v (I', L, Y)) :
    zx_Ci l E d 149 [.ref 3] (I, L, Y) (fun v M1 => zx_lay M1.2.2 ∧ zx_Ci l E d 256 [.ref 132] M1 (fun w M2 => w = v ∧ Q v M2)) := by
  have hL0 := hL
  obtain ⟨⟨h1, h2, h3⟩, ⟨h4, h5, h6, h7⟩, h8⟩ := hL
  refine sg_149_0 hY ⟨fun h => ⟨_, rfl, hY, ?_⟩, fun h => ⟨_, rfl, hY, ?_⟩⟩
  · have h0 : m ≠ 0 := fun q => h (by rw [h2, q]; rfl)
    refine sg_256_0 hY ⟨fun _ => ⟨_, rfl, ?_, ?_⟩, fun q => ?_⟩
    · rw [zy_u2_ne (by omega), h3, h2]
    · have e1 : I 117 2 - 1 = nI (m - 1) := by rw [h2]; exact pk_sub (b := 1) (by omega)
      have e2 : zx_u2 I 117 2 (I 117 2 - 1) 132 37 - 1 = nI (m - 1) := by rw [zy_u2_ne (by omega), h3]; exact pk_sub (b := 1) (by omega)
      rw [e2, e1]
      refine hq _ _ (m - 1) ⟨⟨by omega, ?_, ?_⟩, ⟨h4, h5, ?_, ?_⟩, fun t ht => ?_⟩ ?_
      · rw [zy_u2_ne (by omega), zy_u2_ne (by omega), zy_u2_self]
      · rw [zy_u2_self]
      · rw [zy_u2_ne (by omega), zy_u2_ne (by omega), zy_u2_ne (by omega)]; exact h6
      · rw [zy_u2_ne (by omega), zy_u2_ne (by omega), zy_u2_ne (by omega)]; exact h7
      · exact h8 t (by omega)
      · refine zy_fr_u2 (zy_fr_u2 (zy_fr_u2 (zy_fr_rf _ _) ?_) ?_) ?_
        · exact zy_in_at 0 117 2 3 2 rfl (by omega) (by omega)
        · exact zy_in_at 1 132 0 1 0 rfl (by omega) (by omega)
        · exact zy_in_at 2 132 37 38 37 rfl (by omega) (by omega)
    · rw [zy_u2_ne (by omega), h3] at q
      exact absurd ((zy_eq0 (by omega)).mp q) h0
  · have h0 : m = 0 := by rw [h2, zy_eq0 (by omega)] at h; exact h
    refine sg_256_0 hY ⟨fun q => absurd (by rw [h3, h0]; rfl) q, fun _ => ⟨_, rfl, rfl, hq _ _ m (zc_L_cong hL0 (zy_fr_on zy_thr_fr (by decide))) (zy_fr_mono zy_thr_fr (by decide))⟩⟩
end YCn
