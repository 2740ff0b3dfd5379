/-! ===== codes of names: numbers with base 7 ===== -/
def zy_len (c : Nat) : Nat := if c = 0 then 0 else zy_len (c / 7) + 1
termination_by c
decreasing_by omega
def zy_dig (c : Nat) : Bool := if c = 0 then true else decide (c % 7 ≠ 0) && zy_dig (c / 7)
termination_by c
decreasing_by omega
theorem zy_len_0 : zy_len 0 = 0 := by rw [zy_len]; rfl
theorem zy_len_s {c : Nat} (h : c ≠ 0) : zy_len c = zy_len (c / 7) + 1 := by rw [zy_len, if_neg h]
theorem zy_dig_0 : zy_dig 0 = true := by rw [zy_dig]; rfl
theorem zy_dig_s {c : Nat} (h : c ≠ 0) : zy_dig c = (decide (c % 7 ≠ 0) && zy_dig (c / 7)) := by rw [zy_dig, if_neg h]
theorem zy_len_lt (n : Nat) : ∀ c : Nat, zy_len c ≤ n ↔ c < 7 ^ n := by
  induction n with
  | zero =>
    intro c
    by_cases h : c = 0
    · subst h; simp [zy_len_0]
    · rw [zy_len_s h]; simp; omega
  | succ n ih =>
    intro c
    by_cases h : c = 0
    · subst h; rw [zy_len_0]; exact ⟨fun _ => Nat.pos_of_ne_zero (by exact Nat.ne_of_gt (Nat.pow_pos (by omega))), fun _ => Nat.zero_le _⟩
    · rw [zy_len_s h, Nat.add_le_add_iff_right, ih, Nat.pow_succ]
      omega
theorem zy_len31 {c : Nat} (h : c < 2 ^ 31) : zy_len c ≤ 12 := (zy_len_lt 12 c).mpr (Nat.lt_of_lt_of_le h (by decide))
theorem zy_7 : (7 : Int32) = nI 7 := by decide
theorem zy_d7 {c : Nat} (h : c < 2 ^ 31) : nI c / (7 : Int32) = nI (c / 7) := by rw [zy_7]; exact pk_div h (by omega) (by omega)
theorem zy_r7 {c : Nat} (h : c < 2 ^ 31) : nI c - nI c / (7 : Int32) * (7 : Int32) = nI (c % 7) := by rw [zy_7]; exact pk_rem h (by omega) (by omega)
theorem zy_le0 {c : Nat} (h : c < 2 ^ 31) : nI c ≤ 0 ↔ c = 0 := by rw [← nI_0, nI_leI h (by omega)]; omega
theorem zy_eq0 {c : Nat} (h : c < 2 ^ 31) : nI c = 0 ↔ c = 0 := by rw [← nI_0, nI_eq h (by omega)]
section YC
variable {l : Launch} {E : zx_E} {d : Nat} {I : Nat → Nat → Int32} {L : Nat → Nat → Int64} {Y : zx_Y} {Qo : Option Value → zx_M → Prop} {Q : Int32 → zx_M → Prop}
/-- the model's lengthOf -/
theorem zy_171_4 (hY : zx_lay Y) : ∀ (n c a : Nat), c ≤ n → c < 2 ^ 31 → Qo (some (.int (nI (a + zy_len c)))) (I, L, Y) → zx_To l E d 171 4 [none, some (.int (nI a)), some (.int (nI c))] [] (I, L, Y) Qo := by
  intro n
  induction n with
  | zero =>
    intro c a hc h31 hq
    have e : c = 0 := by omega
    subst e
    refine sg_171_4 hY _ _ ⟨fun _ => ?_, fun h1 => absurd ((zy_le0 h31).mpr rfl) h1⟩
    rw [zy_len_0] at hq
    exact hq
  | succ n ih =>
    intro c a hc h31 hq
    refine sg_171_4 hY _ _ ⟨fun h1 => ?_, fun h1 => ?_⟩
    · have e := (zy_le0 h31).mp h1
      subst e
      rw [zy_len_0] at hq
      exact hq
    · have h0 : c ≠ 0 := fun e => h1 ((zy_le0 h31).mpr e)
      rw [zy_d7 h31, nI_1]
      refine ih (c / 7) (a + 1) (by omega) (by omega) ?_
      rw [zy_len_s h0, show a + (zy_len (c / 7) + 1) = a + 1 + zy_len (c / 7) by omega] at hq
      exact hq
theorem zy_171 (hY : zx_lay Y) {c : Nat} (hc : c < 2 ^ 31) (hq : Q (nI (zy_len c)) (I, L, Y)) : zx_Ci l E d 171 [.int (nI c)] (I, L, Y) Q := by
  refine sg_171_0 hY _ (zy_171_4 hY c c 0 (Nat.le_refl _) hc ⟨_, rfl, ?_⟩)
  rw [Nat.zero_add]
  exact hq
/-- the class's lettersOf -/
theorem zy_161_6 (hY : zx_lay Y) : ∀ (n b c a : Nat), b + n = 8 → c < 7 ^ n → Qo (some (.int (nI (a + zy_len c)))) (I, L, Y) → zx_To l E d 161 6 [none, some (.int (nI c)), some (.int (nI a)), some (.int (nI b))] [] (I, L, Y) Qo := by
  intro n
  induction n with
  | zero =>
    intro b c a hb hc hq
    have e : c = 0 := by simp at hc; exact hc
    subst e
    have e2 : b = 8 := by omega
    subst e2
    rw [zy_len_0] at hq
    exact sg_161_6 hY _ _ _ ⟨fun _ => hq, fun h1 => absurd (by decide) h1⟩
  | succ n ih =>
    intro b c a hb hc hq
    have h31 : c < 2 ^ 31 := Nat.lt_of_lt_of_le hc (Nat.le_trans (Nat.pow_le_pow_right (by omega) (show n + 1 ≤ 8 by omega)) (by decide))
    refine sg_161_6 hY _ _ _ ⟨fun h1 => ?_, fun _ => ⟨fun h1 => ?_, fun h1 => ?_⟩⟩
    · have : (8 : Int32) = nI 8 := by decide
      rw [this, nI_leI (by omega) (by omega)] at h1
      omega
    · have e := (zy_le0 h31).mp h1
      subst e
      rw [zy_len_0] at hq
      exact hq
    · have h0 : c ≠ 0 := fun e => h1 ((zy_le0 h31).mpr e)
      rw [zy_d7 h31, nI_1, nI_1]
      refine ih (b + 1) (c / 7) (a + 1) (by omega) (by rw [Nat.pow_succ] at hc; omega) ?_
      rw [zy_len_s h0, show a + (zy_len (c / 7) + 1) = a + 1 + zy_len (c / 7) by omega] at hq
      exact hq
theorem zy_161 (hY : zx_lay Y) {c : Nat} (hc : c < 5764801) (hq : Q (nI (zy_len c)) (I, L, Y)) : zx_Ci l E d 161 [.int (nI c)] (I, L, Y) Q := by
  refine sg_161_0 hY _ (zy_161_6 hY 8 0 c 0 rfl hc ⟨_, rfl, ?_⟩)
  rw [Nat.zero_add]
  exact hq
/-- whether a number is a code (0 too) -/
def zy_is (x : Int32) : Bool := decide (0 ≤ x) && decide (x.toInt < 5764801) && zy_dig x.toInt.toNat
theorem zy_is_nI {c : Nat} (h : c < 2 ^ 31) : zy_is (nI c) = (decide (c < 5764801) && zy_dig c) := by
  have h1 : (0 : Int32) ≤ nI c := nI_pos' h
  have h2 : ((c : Int) < 5764801) ↔ c < 5764801 := by omega
  simp only [zy_is, h1, decide_true, Bool.true_and, nI_toInt h, Int.toNat_natCast, h2]
theorem zy_160_17 (hY : zx_lay Y) : ∀ (n b c : Nat), b + n = 8 → c < 7 ^ n → Qo (some (.int (if zy_dig c then 1 else 0))) (I, L, Y) → zx_To l E d 160 17 [none, some (.int (nI c)), some (.int (nI b))] [] (I, L, Y) Qo := by
  intro n
  induction n with
  | zero =>
    intro b c hb hc hq
    have e : c = 0 := by simp at hc; exact hc
    subst e
    have e2 : b = 8 := by omega
    subst e2
    rw [zy_dig_0] at hq
    exact sg_160_17 hY _ _ ⟨fun _ => hq, fun h1 => absurd (by decide) h1⟩
  | succ n ih =>
    intro b c hb hc hq
    have h31 : c < 2 ^ 31 := Nat.lt_of_lt_of_le hc (Nat.le_trans (Nat.pow_le_pow_right (by omega) (show n + 1 ≤ 8 by omega)) (by decide))
    refine sg_160_17 hY _ _ ⟨fun h1 => ?_, fun _ => ⟨fun h1 => ?_, fun h1 => ⟨fun h2 => ?_, fun h2 => ?_⟩⟩⟩
    · have : (8 : Int32) = nI 8 := by decide
      rw [this, nI_leI (by omega) (by omega)] at h1
      omega
    · have e := (zy_eq0 h31).mp h1
      subst e
      rw [zy_dig_0] at hq
      exact hq
    · have h0 : c ≠ 0 := fun e => h1 ((zy_eq0 h31).mpr e)
      rw [zy_r7 h31, zy_eq0 (by omega)] at h2
      rw [zy_d7 h31, nI_1]
      refine ih (b + 1) (c / 7) (by omega) (by rw [Nat.pow_succ] at hc; omega) ?_
      rw [zy_dig_s h0, decide_eq_true h2, Bool.true_and] at hq
      exact hq
    · have h0 : c ≠ 0 := fun e => h1 ((zy_eq0 h31).mpr e)
      rw [zy_r7 h31, zy_eq0 (by omega)] at h2
      rw [zy_dig_s h0, h2] at hq
      exact hq
theorem zy_160 (hY : zx_lay Y) {x : Int32} (hq : Q (if zy_is x then 1 else 0) (I, L, Y)) : zx_Ci l E d 160 [.int x] (I, L, Y) Q := by
  refine sg_160_0 hY _ ⟨fun h1 => ⟨_, rfl, ?_⟩, fun h1 => ⟨fun h2 => ?_, fun h2 => ⟨_, rfl, ?_⟩⟩⟩
  · have e : zy_is x = false := by
      simp only [zy_is, decide_eq_false (Int32.not_le.mpr h1), Bool.false_and]
    rw [e] at hq
    exact hq
  · obtain ⟨c, hc, rfl⟩ := nI_of h1
    have e5 : (5764801 : Int32) = nI 5764801 := by decide
    rw [e5, nI_ltI hc (by omega)] at h2
    refine zy_160_17 hY 8 0 c rfl h2 ⟨_, rfl, ?_⟩
    rw [zy_is_nI hc, decide_eq_true h2, Bool.true_and] at hq
    exact hq
  · obtain ⟨c, hc, rfl⟩ := nI_of h1
    have e5 : (5764801 : Int32) = nI 5764801 := by decide
    rw [e5, nI_ltI hc (by omega)] at h2
    rw [zy_is_nI hc, decide_eq_false h2, Bool.false_and] at hq
    exact hq
/-- the model's isCode -/
theorem zy_172_21 (hY : zx_lay Y) : ∀ (n c : Nat) (b : Bool), c ≤ n → c < 2 ^ 31 → Qo (some (.int (if b && zy_dig c then 1 else 0))) (I, L, Y) → zx_To l E (d + 1) 172 21 [none, some (.int (if b then 1 else 0)), some (.int (nI c))] [] (I, L, Y) Qo := by
  intro n
  induction n with
  | zero =>
    intro c b hc h31 hq
    have e : c = 0 := by omega
    subst e
    rw [zy_dig_0, Bool.and_true] at hq
    refine sg_172_21 hY _ _ ⟨fun _ => ⟨by cases b <;> simp, hq⟩, fun h1 => absurd ((zy_le0 h31).mpr rfl) h1⟩
  | succ n ih =>
    intro c b hc h31 hq
    refine sg_172_21 hY _ _ ⟨fun h1 => ⟨by cases b <;> simp, ?_⟩, fun h1 => ⟨fun h2 => ?_, fun h2 => ⟨fun h3 => ?_, fun h3 => ?_⟩⟩⟩
    · have e := (zy_le0 h31).mp h1
      subst e
      rw [zy_dig_0, Bool.and_true] at hq
      exact hq
    · have h0 : c ≠ 0 := fun e => h1 ((zy_le0 h31).mpr e)
      have hb : b = false := by cases b <;> first | rfl | (exact absurd h2 (by decide))
      subst hb
      rw [zy_d7 h31]
      exact ih (c / 7) false (by omega) (by omega) hq
    · have h0 : c ≠ 0 := fun e => h1 ((zy_le0 h31).mpr e)
      rw [zy_r7 h31, zy_le0 (by omega)] at h3
      rw [zy_dig_s h0, h3] at hq
      rw [zy_d7 h31]
      refine ih (c / 7) false (by omega) (by omega) ?_
      simpa using hq
    · have h0 : c ≠ 0 := fun e => h1 ((zy_le0 h31).mpr e)
      have hb : b = true := by cases b <;> first | rfl | (exact absurd rfl h2)
      subst hb
      rw [zy_r7 h31, zy_le0 (by omega)] at h3
      rw [zy_dig_s h0, decide_eq_true h3, Bool.true_and] at hq
      rw [zy_d7 h31]
      exact ih (c / 7) true (by omega) (by omega) hq
theorem zy_172_neg (hY : zx_lay Y) {x : Int32} (hx : x < 0) (hq : Qo (some (.int 0)) (I, L, Y)) : zx_To l E (d + 1) 172 21 [none, some (.int 0), some (.int x)] [] (I, L, Y) Qo := by
  refine sg_172_21 hY _ _ ⟨fun _ => ⟨Or.inl rfl, hq⟩, fun h1 => absurd (Int32.le_of_lt hx) h1⟩
theorem zy_172 (hY : zx_lay Y) {x : Int32} (hq : Q (if zy_is x then 1 else 0) (I, L, Y)) : zx_Ci l E (d + 1) 172 [.int x] (I, L, Y) Q := by
  refine sg_172_0 hY _ ⟨fun h1 => ?_, fun h1 => ?_⟩
  · have e : zy_is x = false := by
      simp only [zy_is, decide_eq_false (Int32.not_le.mpr h1), Bool.false_and]
    rw [e] at hq
    exact zy_172_neg hY h1 ⟨_, rfl, hq⟩
  · obtain ⟨c, hc, rfl⟩ := nI_of h1
    have hl := zy_len31 hc
    have e8 : (8 : Int32) = nI 8 := by decide
    have e9 := zy_len_lt 8 c
    rw [zy_is_nI hc] at hq
    refine zy_171 hY hc ⟨hY, fun h2 => ?_, fun h2 => ?_⟩
    · rw [e8, nI_ltI (by omega) (by omega)] at h2
      have : ¬ c < 5764801 := fun q => by have := e9.mpr q; omega
      rw [decide_eq_false this, Bool.false_and] at hq
      exact zy_172_21 hY c c false (Nat.le_refl _) hc ⟨_, rfl, hq⟩
    · rw [e8, nI_ltI (by omega) (by omega)] at h2
      have : c < 5764801 := e9.mp (by omega)
      rw [decide_eq_true this, Bool.true_and] at hq
      exact zy_172_21 hY c c true (Nat.le_refl _) hc ⟨_, rfl, hq⟩
end YC
