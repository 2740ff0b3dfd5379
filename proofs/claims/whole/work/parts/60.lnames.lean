/-! ===== what a listener knows: names within wide, in their order ===== -/
/-- the x-th name of n letters a .. w -/
def zl_na (w : Nat) : Nat → Nat → Nat
  | 0, _ => 0
  | n + 1, x => (x % w + 1) + 7 * zl_na w n (x / w)
/-- within wide, at most so many letters -/
def zl_wi (w : Nat) : Nat → Nat → Bool
  | 0, c => decide (c = 0)
  | f + 1, c => if c = 0 then true else decide (c % 7 ≤ w) && zl_wi w f (c / 7)
/-- the next name -/
def zl_fo (w : Nat) : Nat → Nat → Nat
  | 0, c => c
  | f + 1, c => if c % 7 < w then c + 1 else 7 * zl_fo w f (c / 7) + 1
def zl_It (w : Nat) : Nat → Nat
  | 0 => 1
  | j + 1 => zl_fo w 5 (zl_It w j)
/-- how many of at most n letters -/
def zl_of (w : Nat) : Nat → Nat
  | 0 => 0
  | n + 1 => zl_of w n + w ^ (n + 1)
section ZL
variable {w : Nat}
theorem zl_na_s {n x : Nat} (hw6 : w ≤ 6) (hw : 1 ≤ w) : zl_na w (n + 1) x % 7 = x % w + 1 ∧ zl_na w (n + 1) x / 7 = zl_na w n (x / w) ∧ x % w < w := by
  have h : x % w < w := Nat.mod_lt _ (by omega)
  rw [zl_na]
  generalize x % w = r at *
  generalize zl_na w n (x / w) = q at *
  omega
theorem zl_na_len (hw6 : w ≤ 6) (hw : 1 ≤ w) : ∀ n x, zy_len (zl_na w n x) = n
  | 0, x => zy_len_0
  | n + 1, x => by
    obtain ⟨h1, h2, h3⟩ := zl_na_s (n := n) (x := x) hw6 hw
    rw [zy_len_s (fun q => by rw [q] at h1; omega), h2, zl_na_len hw6 hw n]
theorem zl_na_dig (hw6 : w ≤ 6) (hw : 1 ≤ w) : ∀ n x, zy_dig (zl_na w n x) = true
  | 0, x => zy_dig_0
  | n + 1, x => by
    obtain ⟨h1, h2, h3⟩ := zl_na_s (n := n) (x := x) hw6 hw
    rw [zy_dig_s (fun q => by rw [q] at h1; omega), h2, zl_na_dig hw6 hw n, h1, decide_eq_true (Nat.succ_ne_zero _)]; rfl
theorem zl_na_wi (hw6 : w ≤ 6) (hw : 1 ≤ w) : ∀ n x f, n ≤ f → zl_wi w f (zl_na w n x) = true
  | 0, x, 0, _ => rfl
  | 0, x, f + 1, _ => by rw [zl_wi]; rfl
  | n + 1, x, 0, h => by omega
  | n + 1, x, f + 1, h => by
    obtain ⟨h1, h2, h3⟩ := zl_na_s (n := n) (x := x) hw6 hw
    rw [zl_wi, if_neg (fun q => by rw [q] at h1; omega), h2, zl_na_wi hw6 hw n _ f (by omega), h1, decide_eq_true (by omega)]; rfl
theorem zl_na_mono (hw6 : w ≤ 6) (hw : 1 ≤ w) : ∀ n x y, y < w ^ n → x < y → zl_na w n x < zl_na w n y
  | 0, x, y, h, h2 => by rw [Nat.pow_zero] at h; omega
  | n + 1, x, y, h, h2 => by
    rw [zl_na, zl_na]
    rw [Nat.pow_succ] at h
    have ih := zl_na_mono hw6 hw n (x / w) (y / w)
    have key : x / w = y / w ∧ x % w < y % w ∨ (x / w < y / w ∧ y / w < w ^ n) := by
      rcases (show w = 1 ∨ w = 2 ∨ w = 3 ∨ w = 4 ∨ w = 5 ∨ w = 6 by omega) with rfl | rfl | rfl | rfl | rfl | rfl <;> omega
    have hx : x % w < w := Nat.mod_lt _ (by omega)
    rcases key with ⟨e, h3⟩ | ⟨h3, h4⟩
    · rw [e]; omega
    · have := ih h4 h3
      omega
theorem zl_na_ex (hw6 : w ≤ 6) (hw : 1 ≤ w) : ∀ f c, zy_dig c = true → zl_wi w f c = true → ∃ x, x < w ^ (zy_len c) ∧ zl_na w (zy_len c) x = c ∧ zy_len c ≤ f := by
  intro f
  induction f with
  | zero =>
    intro c hd hwi
    have : c = 0 := by simpa [zl_wi] using hwi
    subst this
    exact ⟨0, by rw [zy_len_0, Nat.pow_zero]; exact Nat.one_pos, by rw [zy_len_0]; rfl, by rw [zy_len_0]; exact Nat.le_refl _⟩
  | succ f ih =>
    intro c hd hwi
    by_cases h0 : c = 0
    · subst h0
      exact ⟨0, by rw [zy_len_0, Nat.pow_zero]; exact Nat.one_pos, by rw [zy_len_0]; rfl, by rw [zy_len_0]; omega⟩
    · rw [zy_dig_s h0, Bool.and_eq_true, decide_eq_true_eq] at hd
      rw [zl_wi, if_neg h0, Bool.and_eq_true, decide_eq_true_eq] at hwi
      obtain ⟨x, a1, a2, a3⟩ := ih (c / 7) hd.2 hwi.2
      rw [zy_len_s h0]
      refine ⟨x * w + (c % 7 - 1), ?_, ?_, by omega⟩
      · rw [Nat.pow_succ]
        have : (x + 1) * w ≤ w ^ zy_len (c / 7) * w := Nat.mul_le_mul_right _ a1
        rw [Nat.add_mul] at this
        omega
      · have e1 : (x * w + (c % 7 - 1)) % w = c % 7 - 1 := by
          rw [Nat.mul_comm, Nat.mul_add_mod]; exact Nat.mod_eq_of_lt (by omega)
        have e2 : (x * w + (c % 7 - 1)) / w = x := by
          rw [Nat.mul_comm, Nat.mul_add_div (by omega), Nat.div_eq_of_lt (by omega)]; rfl
        rw [zl_na, e1, e2, a2]
        omega
theorem zl_fo_na (hw6 : w ≤ 6) (hw : 1 ≤ w) : ∀ n f x, n ≤ f → x < w ^ n → (n = f → x + 1 < w ^ n) → zl_fo w f (zl_na w n x) = if x + 1 < w ^ n then zl_na w n (x + 1) else zl_na w (n + 1) 0
  | 0, 0, x, _, h, h2 => by
    have := h2 rfl
    rw [Nat.pow_zero] at this; omega
  | 0, f + 1, x, _, h, h2 => by
    rw [Nat.pow_zero] at h
    rw [Nat.pow_zero, if_neg (by omega), zl_na, zl_fo, if_pos (by omega), zl_na, zl_na, Nat.zero_mod]
  | n + 1, 0, x, h, _, _ => by omega
  | n + 1, f + 1, x, hn, h, h2 => by
    obtain ⟨k1, k2, k3⟩ := zl_na_s (n := n) (x := x) hw6 hw
    have ih := zl_fo_na hw6 hw n f (x / w) (by omega)
    rw [Nat.pow_succ] at h h2 ⊢
    have e0 : zl_na w (n + 1 + 1) 0 = 1 + 7 * zl_na w (n + 1) 0 := by rw [zl_na, Nat.zero_mod, Nat.zero_div]
    have key : (x % w + 1 < w → (x + 1) / w = x / w ∧ (x + 1) % w = x % w + 1 ∧ x + 1 < w ^ n * w) ∧ (¬ x % w + 1 < w → (x + 1) / w = x / w + 1 ∧ (x + 1) % w = 0 ∧ (x + 1 < w ^ n * w ↔ x / w + 1 < w ^ n) ∧ x / w < w ^ n) := by
      rcases (show w = 1 ∨ w = 2 ∨ w = 3 ∨ w = 4 ∨ w = 5 ∨ w = 6 by omega) with rfl | rfl | rfl | rfl | rfl | rfl <;> omega
    rw [zl_fo, k1, k2]
    by_cases hr : x % w + 1 < w
    · obtain ⟨a1, a2, a3⟩ := key.1 hr
      rw [if_pos hr, if_pos a3, zl_na, zl_na, a1, a2]; omega
    · obtain ⟨a1, a2, a3, a4⟩ := key.2 hr
      rw [if_neg hr, ih a4 (fun e => a3.mp (h2 (by omega)))]
      by_cases h3 : x / w + 1 < w ^ n
      · rw [if_pos h3, if_pos (a3.mpr h3), zl_na, a1, a2]; omega
      · rw [if_neg h3, if_neg (fun q => h3 (a3.mp q)), e0]; omega
theorem zl_It_na (hw6 : w ≤ 6) (hw : 1 ≤ w) : ∀ n, n < 5 → ∀ x, x < w ^ (n + 1) → zl_It w (zl_of w n + x) = zl_na w (n + 1) x := by
  have pos : ∀ n, 0 < w ^ n := fun n => Nat.pow_pos (by omega)
  intro n
  induction n with
  | zero =>
    intro _ x
    induction x with
    | zero => intro _; show zl_It w 0 = _; rw [zl_It, zl_na, zl_na, Nat.zero_mod]
    | succ x ihx =>
      intro hx
      have e := ihx (by omega)
      show zl_fo w 5 (zl_It w (zl_of w 0 + x)) = _
      rw [e, zl_fo_na hw6 hw (0 + 1) 5 x (by omega) (by omega) (by omega), if_pos hx]
  | succ n ih =>
    intro hn x
    induction x with
    | zero =>
      intro _
      have hp := pos (n + 1)
      have e := ih (by omega) (w ^ (n + 1) - 1) (by omega)
      have e2 : zl_of w (n + 1) + 0 = (zl_of w n + (w ^ (n + 1) - 1)) + 1 := by rw [zl_of]; omega
      rw [e2, zl_It, e, zl_fo_na hw6 hw (n + 1) 5 _ (by omega) (by omega) (by omega), if_neg (by omega)]
    | succ x ihx =>
      intro hx
      have e := ihx (by omega)
      show zl_fo w 5 (zl_It w (zl_of w (n + 1) + x)) = _
      rw [e, zl_fo_na hw6 hw (n + 1 + 1) 5 x (by omega) (by omega) (fun _ => hx), if_pos hx]
theorem zl_It_ex (hw : 1 ≤ w) : ∀ m j, j < zl_of w m → ∃ n x, n < m ∧ x < w ^ (n + 1) ∧ j = zl_of w n + x
  | 0, j, h => by rw [zl_of] at h; omega
  | m + 1, j, h => by
    by_cases h2 : j < zl_of w m
    · obtain ⟨n, x, a, b, c⟩ := zl_It_ex hw m j h2
      exact ⟨n, x, by omega, b, c⟩
    · rw [zl_of] at h
      exact ⟨m, j - zl_of w m, by omega, by omega, by omega⟩
theorem zl_of_mono : ∀ m n, n ≤ m → zl_of w n ≤ zl_of w m
  | 0, n, h => by rw [show n = 0 by omega]; exact Nat.le_refl _
  | m + 1, n, h => by
    by_cases e : n = m + 1
    · rw [e]; exact Nat.le_refl _
    · have := zl_of_mono m n (by omega)
      rw [zl_of]; omega
theorem zl_of5 (hw6 : w ≤ 6) (hw : 1 ≤ w) : zl_of w 5 ≤ 9330 ∧ zl_of w 5 = (((((0 + 1) * w + 1) * w + 1) * w + 1) * w + 1) * w := by
  rcases (show w = 1 ∨ w = 2 ∨ w = 3 ∨ w = 4 ∨ w = 5 ∨ w = 6 by omega) with rfl | rfl | rfl | rfl | rfl | rfl <;> decide
theorem zl_It_ok (hw6 : w ≤ 6) (hw : 1 ≤ w) {j : Nat} (hj : j < zl_of w 5) : zl_It w j ≠ 0 ∧ zy_dig (zl_It w j) = true ∧ zl_wi w 5 (zl_It w j) = true ∧ zl_It w j < 16807 := by
  obtain ⟨n, x, a, b, rfl⟩ := zl_It_ex hw 5 j hj
  rw [zl_It_na hw6 hw n a x b]
  have hl := zl_na_len hw6 hw (n + 1) x
  refine ⟨fun q => ?_, zl_na_dig hw6 hw _ _, zl_na_wi hw6 hw _ _ 5 (by omega), ?_⟩
  · rw [q, zy_len_0] at hl; omega
  · exact (zy_len_lt 5 _).mp (by omega)
theorem zl_It_step (hw6 : w ≤ 6) (hw : 1 ≤ w) {j : Nat} (hj : j + 1 < zl_of w 5) : zl_It w j < zl_It w (j + 1) := by
  obtain ⟨n, x, a, b, rfl⟩ := zl_It_ex hw 5 j (by omega)
  by_cases h : x + 1 < w ^ (n + 1)
  · rw [show zl_of w n + x + 1 = zl_of w n + (x + 1) by omega, zl_It_na hw6 hw n a x b, zl_It_na hw6 hw n a (x + 1) h]
    exact zl_na_mono hw6 hw _ _ _ h (by omega)
  · have e : zl_of w n + x + 1 = zl_of w (n + 1) := by rw [zl_of]; omega
    have hn : n + 1 < 5 := by
      rw [e] at hj
      have := zl_of_mono (w := w) (n + 1) 5
      by_cases h5 : 5 ≤ n + 1
      · have := this h5; omega
      · omega
    rw [e, zl_It_na hw6 hw n a x b]
    have e2 := zl_It_na hw6 hw (n + 1) hn 0 (Nat.pow_pos (by omega))
    rw [Nat.add_zero] at e2
    rw [e2]
    have l1 := zl_na_len hw6 hw (n + 1) x
    have l2 := zl_na_len hw6 hw (n + 1 + 1) 0
    by_cases hlt : zl_na w (n + 1) x < zl_na w (n + 1 + 1) 0
    · exact hlt
    · have := zy_len_mono (show zl_na w (n + 1 + 1) 0 ≤ zl_na w (n + 1) x by omega)
      omega
theorem zl_It_lt (hw6 : w ≤ 6) (hw : 1 ≤ w) {i : Nat} : ∀ d, i + d + 1 < zl_of w 5 → zl_It w i < zl_It w (i + d + 1)
  | 0, h => zl_It_step hw6 hw h
  | d + 1, h => Nat.lt_trans (zl_It_lt hw6 hw d (by omega)) (zl_It_step hw6 hw (by omega))
theorem zl_It_inj (hw6 : w ≤ 6) (hw : 1 ≤ w) {i j : Nat} (hi : i < zl_of w 5) (hj : j < zl_of w 5) (h : zl_It w i = zl_It w j) : i = j := by
  rcases Nat.lt_trichotomy i j with k | k | k
  · have := zl_It_lt hw6 hw (i := i) (j - i - 1) (by omega)
    rw [show i + (j - i - 1) + 1 = j by omega] at this; omega
  · exact k
  · have := zl_It_lt hw6 hw (i := j) (i - j - 1) (by omega)
    rw [show j + (i - j - 1) + 1 = i by omega] at this; omega
theorem zl_It_mem (hw6 : w ≤ 6) (hw : 1 ≤ w) {c : Nat} (h0 : c ≠ 0) (hd : zy_dig c = true) (hwi : zl_wi w 5 c = true) : ∃ j, j < zl_of w 5 ∧ zl_It w j = c := by
  obtain ⟨x, a1, a2, a3⟩ := zl_na_ex hw6 hw 5 c hd hwi
  obtain ⟨n, hn⟩ : ∃ n, zy_len c = n + 1 := ⟨zy_len c - 1, by have : zy_len c ≠ 0 := fun q => h0 (zy_len_pos.mp q); omega⟩
  rw [hn] at a1 a2 a3
  refine ⟨zl_of w n + x, ?_, by rw [zl_It_na hw6 hw n (by omega) x a1, a2]⟩
  have := zl_of_mono (w := w) 5 (n + 1) (by omega)
  rw [zl_of] at this
  omega
/-- those of the first j that p takes -/
def zl_F (w : Nat) (p : Nat → Bool) : Nat → List Nat
  | 0 => []
  | j + 1 => if p (zl_It w j) then zl_F w p j ++ [zl_It w j] else zl_F w p j
theorem zl_F_ok {p : Nat → Bool} : ∀ j, (zl_F w p j).length ≤ j ∧ ∀ c, c ∈ zl_F w p j ↔ ∃ i, i < j ∧ zl_It w i = c ∧ p c = true
  | 0 => ⟨Nat.le_refl _, fun c => ⟨fun h => by simp [zl_F] at h, fun ⟨i, h, _⟩ => by omega⟩⟩
  | j + 1 => by
    obtain ⟨h1, h2⟩ := zl_F_ok (p := p) j
    rw [zl_F]
    split
    · rename_i hp
      refine ⟨by rw [List.length_append]; show _ + 1 ≤ _; omega, fun c => ?_⟩
      rw [List.mem_append, h2, List.mem_singleton]
      constructor
      · rintro (⟨i, a, b, c⟩ | rfl)
        · exact ⟨i, by omega, b, c⟩
        · exact ⟨j, by omega, rfl, hp⟩
      · rintro ⟨i, a, b, e⟩
        by_cases hij : i = j
        · subst hij; exact Or.inr b.symm
        · exact Or.inl ⟨i, by omega, b, e⟩
    · rename_i hp
      refine ⟨by omega, fun c => ?_⟩
      rw [h2]
      constructor
      · rintro ⟨i, a, b, e⟩; exact ⟨i, by omega, b, e⟩
      · rintro ⟨i, a, b, e⟩
        by_cases hij : i = j
        · subst hij; rw [b] at hp; exact absurd e hp
        · exact ⟨i, by omega, b, e⟩
theorem zl_F_srt (hw6 : w ≤ 6) (hw : 1 ≤ w) {p : Nat → Bool} : ∀ j, j ≤ zl_of w 5 → (zl_F w p j).Pairwise (· < ·)
  | 0, _ => List.Pairwise.nil
  | j + 1, hj => by
    have ih := zl_F_srt hw6 hw (p := p) j (by omega)
    rw [zl_F]
    split
    · rw [List.pairwise_append]
      refine ⟨ih, List.pairwise_singleton _ _, fun a ha b hb => ?_⟩
      rw [List.mem_singleton] at hb
      subst hb
      obtain ⟨i, h1, rfl, _⟩ := ((zl_F_ok (p := p) j).2 a).mp ha
      have := zl_It_lt hw6 hw (i := i) (j - i - 1) (by omega)
      rw [show i + (j - i - 1) + 1 = j by omega] at this
      exact this
    · exact ih
theorem zl_F_cong {p q : Nat → Bool} : ∀ j, (∀ i, i < j → p (zl_It w i) = q (zl_It w i)) → zl_F w p j = zl_F w q j
  | 0, _ => rfl
  | j + 1, h => by rw [zl_F, zl_F, h j (by omega), zl_F_cong j (fun i hi => h i (by omega))]
/-- nothing ahead of k is taken, k is -/
theorem zl_F_pre {p : Nat → Bool} : ∀ j, (∀ i, i < j → p (zl_It w i) = false) → zl_F w p j = []
  | 0, _ => rfl
  | j + 1, h => by
    rw [zl_F, if_neg (by rw [h j (by omega)]; decide)]
    exact zl_F_pre j (fun i hi => h i (by omega))
theorem zl_F_head {p : Nat → Bool} {k : Nat} (hk : p (zl_It w k) = true) (hb : ∀ i, i < k → p (zl_It w i) = false) : ∀ j, k < j → (zl_F w p j).getD 0 0 = zl_It w k ∧ zl_F w p j ≠ []
  | 0, h => by omega
  | j + 1, h => by
    rw [zl_F]
    by_cases e : k = j
    · subst e
      rw [if_pos hk, zl_F_pre k hb]; exact ⟨rfl, by simp⟩
    · obtain ⟨h1, h2⟩ := zl_F_head hk hb j (by omega)
      split
      · cases hF : zl_F w p j with
        | nil => exact absurd hF h2
        | cons x xs => rw [hF] at h1; exact ⟨h1, by simp⟩
      · exact ⟨h1, h2⟩
/-- one more is left out -/
theorem zl_F_out (hw6 : w ≤ 6) (hw : 1 ≤ w) {p : Nat → Bool} {x : Nat} : ∀ j, j ≤ zl_of w 5 → (zl_F w (fun c => p c && decide (x ≠ c)) j).length + (if (∃ i, i < j ∧ zl_It w i = x) ∧ p x = true then 1 else 0) = (zl_F w p j).length
  | 0, _ => by rw [if_neg (fun ⟨⟨i, h, _⟩, _⟩ => by omega)]; rfl
  | j + 1, hj => by
    have ih := zl_F_out hw6 hw (p := p) (x := x) j (by omega)
    rw [zl_F, zl_F]
    by_cases hx : zl_It w j = x
    · have hno : ¬ ∃ i, i < j ∧ zl_It w i = x := fun ⟨i, h1, h2⟩ => by
        have := zl_It_inj hw6 hw (show i < zl_of w 5 by omega) (show j < zl_of w 5 by omega) (by rw [h2, hx])
        omega
      rw [if_neg (fun q => hno q.1)] at ih
      by_cases hp : p x = true
      · have e1 : (if (∃ i, i < j + 1 ∧ zl_It w i = x) ∧ p x = true then 1 else 0) = 1 := if_pos ⟨⟨j, by omega, hx⟩, hp⟩
        rw [e1, hx, if_neg (by simp), if_pos hp, List.length_append]
        show _ = _ + 1
        omega
      · have e1 : (if (∃ i, i < j + 1 ∧ zl_It w i = x) ∧ p x = true then 1 else 0) = 0 := if_neg (fun q => hp q.2)
        rw [e1, hx, if_neg (by simp), if_neg hp]
        omega
    · have hiff : (∃ i, i < j + 1 ∧ zl_It w i = x) ↔ ∃ i, i < j ∧ zl_It w i = x := by
        constructor
        · rintro ⟨i, h1, h2⟩
          by_cases e : i = j
          · subst e; exact absurd h2 hx
          · exact ⟨i, by omega, h2⟩
        · rintro ⟨i, h1, h2⟩; exact ⟨i, by omega, h2⟩
      have hd : decide (x ≠ zl_It w j) = true := decide_eq_true (fun q => hx q.symm)
      have e3 : (if (∃ i, i < j + 1 ∧ zl_It w i = x) ∧ p x = true then 1 else 0) = (if (∃ i, i < j ∧ zl_It w i = x) ∧ p x = true then 1 else 0) := by
        by_cases h : (∃ i, i < j ∧ zl_It w i = x) ∧ p x = true
        · rw [if_pos h, if_pos ⟨hiff.mpr h.1, h.2⟩]
        · rw [if_neg h, if_neg (fun q => h ⟨hiff.mp q.1, q.2⟩)]
      rw [e3]
      by_cases hp : p (zl_It w j) = true
      · rw [if_pos (by rw [hp, hd]; rfl), if_pos hp, List.length_append, List.length_append]
        show _ + 1 + _ = _ + 1
        omega
      · rw [if_neg (by simp [hp]), if_neg hp]
        exact ih
end ZL
/-! what was heard -/
def zl_hb (hc : Nat → Nat) (ha : Nat → Bool) : Nat → Nat → Nat → Option Nat
  | 0, _, c => some c
  | n + 1, t, c => if decide (c = hc t) = ha t then zl_hb hc ha n (t + 1) (if c = hc t then c / 7 else c) else none
/-- not heard among the first t -/
def zl_nh (hc : Nat → Nat) : Nat → Nat → Bool
  | 0, _ => true
  | t + 1, c => zl_nh hc t c && decide (hc t ≠ c)
theorem zl_nh_iff {hc : Nat → Nat} {c : Nat} : ∀ t, zl_nh hc t c = true ↔ ∀ s, s < t → hc s ≠ c
  | 0 => ⟨fun _ s h => by omega, fun _ => rfl⟩
  | t + 1 => by
    rw [zl_nh, Bool.and_eq_true, zl_nh_iff t, decide_eq_true_eq]
    exact ⟨fun ⟨h1, h2⟩ s hs => by
      by_cases e : s = t
      · subst e; exact h2
      · exact h1 s (by omega), fun h => ⟨fun s hs => h s (by omega), h t (by omega)⟩⟩
def zl_nr (hc : Nat → Nat) : Nat → Nat → Nat → Bool
  | 0, _, _ => true
  | n + 1, t, c => decide (c ≠ hc t) && zl_nr hc n (t + 1) c
theorem zl_nr_iff {hc : Nat → Nat} {c : Nat} : ∀ n t, zl_nr hc n t c = true ↔ ∀ s, t ≤ s → s < t + n → hc s ≠ c
  | 0, t => ⟨fun _ s h1 h2 => by omega, fun _ => rfl⟩
  | n + 1, t => by
    rw [zl_nr, Bool.and_eq_true, zl_nr_iff n (t + 1), decide_eq_true_eq]
    exact ⟨fun ⟨h1, h2⟩ s a b => by
      by_cases e : s = t
      · subst e; exact fun q => h1 q.symm
      · exact h2 s (by omega) (by omega), fun h => ⟨fun q => h t (Nat.le_refl _) (by omega) q.symm, fun s a b => h s (by omega) (by omega)⟩⟩
theorem zl_nr_nh {hc : Nat → Nat} {c m : Nat} : zl_nr hc m 0 c = zl_nh hc m c := by
  rw [Bool.eq_iff_iff, zl_nr_iff, zl_nh_iff]
  exact ⟨fun h s hs => h s (Nat.zero_le _) (by omega), fun h s _ hs => h s (by omega)⟩
/-- nobody answered from t on: it is whole, and was not called -/
theorem zl_hb_no {hc : Nat → Nat} {ha : Nat → Bool} {c : Nat} : ∀ n t, (∀ s, t ≤ s → s < t + n → ha s = false) → zl_hb hc ha n t c = if zl_nr hc n t c then some c else none
  | 0, t, _ => rfl
  | n + 1, t, h => by
    have h0 := h t (Nat.le_refl _) (by omega)
    have ih := zl_hb_no (hc := hc) (c := c) n (t + 1) (fun s h1 h2 => h s (by omega) (by omega))
    rw [zl_hb, h0, zl_nr]
    by_cases e : c = hc t
    · rw [decide_eq_true e, if_neg (by decide), decide_eq_false (fun q => q e)]; rfl
    · rw [decide_eq_false e, if_pos rfl, if_neg e, ih, decide_eq_true e, Bool.true_and]
/-- the first who answered tells the name -/
theorem zl_hb_yes {hc : Nat → Nat} {ha : Nat → Bool} {c t0 : Nat} : ∀ n t, t ≤ t0 → t0 < t + n → (∀ s, t ≤ s → s < t0 → ha s = false) → ha t0 = true → (zl_hb hc ha n t c).isSome = true → c = hc t0
  | 0, t, h1, h2, _, _, _ => by omega
  | n + 1, t, h1, h2, h3, h4, h5 => by
    rw [zl_hb] at h5
    by_cases e : t = t0
    · subst e
      rw [h4] at h5
      by_cases z : c = hc t
      · exact z
      · rw [decide_eq_false z, if_neg (by decide)] at h5; cases h5
    · rw [h3 t (Nat.le_refl _) (by omega)] at h5
      by_cases z : c = hc t
      · rw [decide_eq_true z, if_neg (by decide)] at h5; cases h5
      · rw [decide_eq_false z, if_pos rfl, if_neg z] at h5
        exact zl_hb_yes n (t + 1) (by omega) (by omega) (fun s a b => h3 s (by omega) b) h4 h5
theorem zl_hb_lt {hc : Nat → Nat} {ha : Nat → Bool} : ∀ n t c v, zl_hb hc ha n t c = some v → v ≤ c
  | 0, t, c, v, h => by rw [zl_hb] at h; cases h; exact Nat.le_refl _
  | n + 1, t, c, v, h => by
    rw [zl_hb] at h
    split at h
    · have := zl_hb_lt n (t + 1) _ v h
      split at this
      · omega
      · exact this
    · cases h
