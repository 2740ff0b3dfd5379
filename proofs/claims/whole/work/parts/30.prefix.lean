/-! ===== beginnings of names ===== -/
theorem zy_b0 {b : Bool} : (if b then (1 : Int32) else 0) = 0 ↔ b = false := by cases b <;> decide
theorem zy_b1 {b : Bool} : (¬ (if b then (1 : Int32) else 0) = 0) ↔ b = true := by cases b <;> decide
theorem zy_m1 (k : Nat) : nI (k + 1) + (-1) = nI k := by
  have e : nI k + 1 = nI (k + 1) := nI_add k 1
  rw [← e, Int32.add_assoc, show (1 : Int32) + (-1) = 0 by decide, Int32.add_zero]
def zy_n (x : Int32) : Nat := x.toInt.toNat
theorem zy_n_nI {c : Nat} (h : c < 2 ^ 31) : zy_n (nI c) = c := by unfold zy_n; rw [nI_toInt h]; omega
theorem zy_is_n {x : Int32} (h : zy_is x = true) : x = nI (zy_n x) ∧ zy_n x < 5764801 ∧ zy_dig (zy_n x) = true := by
  obtain ⟨c, rfl, h1, h2⟩ := zy_is_of h
  rw [zy_n_nI (by omega)]
  exact ⟨rfl, h1, h2⟩
theorem zy_len_mono {c s : Nat} (h : c ≤ s) : zy_len c ≤ zy_len s := (zy_len_lt _ c).mpr (Nat.lt_of_le_of_lt h ((zy_len_lt _ s).mp (Nat.le_refl _)))
theorem zy_len_d (c : Nat) : zy_len (c / 7) = zy_len c - 1 := by
  by_cases h : c = 0
  · subst h; rw [zy_len_0]
  · rw [zy_len_s h]; omega
theorem zy_len_dk (c : Nat) : ∀ k, zy_len (c / 7 ^ k) = zy_len c - k
  | 0 => by simp
  | k + 1 => by rw [Nat.pow_succ, ← Nat.div_div_eq_div_mul, zy_len_d, zy_len_dk c k]; omega
theorem zy_len_pos {c : Nat} : zy_len c = 0 ↔ c = 0 := by
  constructor
  · intro h
    by_cases h0 : c = 0
    · exact h0
    · rw [zy_len_s h0] at h; omega
  · intro h; subst h; exact zy_len_0
theorem zy_len8 {c : Nat} (h : c < 5764801) : zy_len c ≤ 8 := (zy_len_lt 8 c).mpr h
/-- the first n letters -/
def zy_pf (c n : Nat) : Nat := c / 7 ^ (zy_len c - n)
theorem zy_pf_self {c n : Nat} (h : zy_len c ≤ n) : zy_pf c n = c := by unfold zy_pf; rw [show zy_len c - n = 0 by omega]; simp
theorem zy_pf_d {c n : Nat} (h : n < zy_len c) : zy_pf c n = zy_pf (c / 7) n := by
  unfold zy_pf
  rw [zy_len_d, show zy_len c - n = (zy_len c - 1 - n) + 1 by omega, Nat.pow_succ, Nat.mul_comm, ← Nat.div_div_eq_div_mul]
theorem zy_len_pf {c n : Nat} : zy_len (zy_pf c n) = min (zy_len c) n := by unfold zy_pf; rw [zy_len_dk]; omega
theorem zy_pf_le (c n : Nat) : zy_pf c n ≤ c := Nat.div_le_self _ _
def zy_st (c s : Nat) : Bool := decide (zy_pf c (zy_len s) = s)
theorem zy_st_le {c s : Nat} (h : c ≤ s) : zy_st c s = decide (c = s) := by unfold zy_st; rw [zy_pf_self (zy_len_mono h)]
theorem zy_st_gt {c s : Nat} (h : s < c) : zy_st c s = zy_st (c / 7) s := by
  unfold zy_st
  have h1 := zy_len_mono (Nat.le_of_lt h)
  by_cases h2 : zy_len s < zy_len c
  · rw [zy_pf_d h2]
  · have h3 : zy_len s = zy_len c := by omega
    rw [h3, zy_pf_self (Nat.le_refl _), zy_pf_self (by rw [zy_len_d]; omega), decide_eq_decide]
    constructor
    · intro q; omega
    · intro q
      have h4 := zy_len_d c
      rw [q, h3] at h4
      have : zy_len c = 0 := by omega
      have := zy_len_pos.mp this
      omega
/-- the longest common beginning -/
def zy_shf : Nat → Nat → Nat → Nat
  | 0, a, _ => a
  | n + 1, a, b => if a = b then a else if a ≤ b then zy_shf n a (b / 7) else zy_shf n (a / 7) b
def zy_cp (a b : Nat) : Nat := zy_shf 16 a b
theorem zy_shf_ok : ∀ (n a b : Nat), zy_len a + zy_len b ≤ n → zy_shf n a b = zy_pf a (zy_len (zy_shf n a b)) ∧ zy_shf n a b = zy_pf b (zy_len (zy_shf n a b)) ∧ ∀ m, zy_len (zy_shf n a b) < m → m ≤ zy_len a → m ≤ zy_len b → zy_pf a m ≠ zy_pf b m
  | 0, a, b, h => by
    have ha := zy_len_pos.mp (show zy_len a = 0 by omega)
    have hb := zy_len_pos.mp (show zy_len b = 0 by omega)
    subst ha; subst hb
    refine ⟨?_, ?_, fun m h1 h2 => by omega⟩ <;> simp [zy_shf, zy_pf]
  | n + 1, a, b, h => by
    rw [zy_shf]
    by_cases h1 : a = b
    · subst h1
      rw [if_pos rfl]
      exact ⟨(zy_pf_self (Nat.le_refl _)).symm, (zy_pf_self (Nat.le_refl _)).symm, fun m h2 h3 => by omega⟩
    · rw [if_neg h1]
      by_cases h2 : a ≤ b
      · rw [if_pos h2]
        have hb0 : 1 ≤ zy_len b := by
          have : zy_len b ≠ 0 := fun q => by have := zy_len_pos.mp q; omega
          omega
        obtain ⟨i1, i2, i3⟩ := zy_shf_ok n a (b / 7) (by rw [zy_len_d]; omega)
        have hl : zy_len (zy_shf n a (b / 7)) ≤ zy_len b - 1 := by
          have := congrArg zy_len i2
          rw [zy_len_pf, zy_len_d] at this
          omega
        refine ⟨i1, ?_, fun m h3 h4 h5 => ?_⟩
        · rw [zy_pf_d (by omega)]; exact i2
        · by_cases h6 : m < zy_len b
          · rw [zy_pf_d h6]; exact i3 m h3 h4 (by rw [zy_len_d]; omega)
          · have := zy_len_mono h2
            rw [zy_pf_self (by omega), zy_pf_self (by omega)]; exact h1
      · rw [if_neg h2]
        have ha0 : 1 ≤ zy_len a := by
          have : zy_len a ≠ 0 := fun q => by have := zy_len_pos.mp q; omega
          omega
        obtain ⟨i1, i2, i3⟩ := zy_shf_ok n (a / 7) b (by rw [zy_len_d]; omega)
        have hl : zy_len (zy_shf n (a / 7) b) ≤ zy_len a - 1 := by
          have := congrArg zy_len i1
          rw [zy_len_pf, zy_len_d] at this
          omega
        refine ⟨?_, i2, fun m h3 h4 h5 => ?_⟩
        · rw [zy_pf_d (by omega)]; exact i1
        · by_cases h6 : m < zy_len a
          · rw [zy_pf_d h6]; exact i3 m h3 (by rw [zy_len_d]; omega) h5
          · have := zy_len_mono (show b ≤ a by omega)
            rw [zy_pf_self (by omega), zy_pf_self (by omega)]; exact h1
theorem zy_cp_ok {a b : Nat} (ha : a < 5764801) (hb : b < 5764801) : zy_cp a b = zy_pf a (zy_len (zy_cp a b)) ∧ zy_cp a b = zy_pf b (zy_len (zy_cp a b)) ∧ ∀ m, zy_len (zy_cp a b) < m → m ≤ zy_len a → m ≤ zy_len b → zy_pf a m ≠ zy_pf b m :=
  zy_shf_ok 16 a b (by have := zy_len8 ha; have := zy_len8 hb; omega)
theorem zy_cp_lt {a b : Nat} (ha : a < 5764801) (hb : b < 5764801) : zy_cp a b < 5764801 ∧ zy_len (zy_cp a b) ≤ zy_len a ∧ zy_len (zy_cp a b) ≤ zy_len b := by
  obtain ⟨h1, h2, -⟩ := zy_cp_ok ha hb
  refine ⟨?_, ?_, ?_⟩
  · rw [h1]; exact Nat.lt_of_le_of_lt (zy_pf_le _ _) ha
  · have := congrArg zy_len h1; rw [zy_len_pf] at this; omega
  · have := congrArg zy_len h2; rw [zy_len_pf] at this; omega
/-- whether two can meet -/
def zy_cm (a b : Nat) (k : Int32) : Bool := decide (0 < zy_len (zy_cp a b)) && (!decide (k < nI (zy_len a - zy_len (zy_cp a b))) && !decide (k < nI (zy_len b - zy_len (zy_cp a b))))
section YP
variable {l : Launch} {E : zx_E} {d : Nat} {I : Nat → Nat → Int32} {L : Nat → Nat → Int64} {Y : zx_Y} {Qo : Option Value → zx_M → Prop} {Q : Int32 → zx_M → Prop} {Qv : zx_M → Prop}
theorem zy_162_4 (hY : zx_lay Y) {s : Nat} (hs : s < 2 ^ 31) : ∀ (n b c : Nat), b + n = 8 → c < 7 ^ n → Qo (some (.int (if zy_st c s then 1 else 0))) (I, L, Y) → zx_To l E d 162 4 [none, some (.int (nI s)), some (.int (nI c)), some (.int (nI b))] [] (I, L, Y) Qo := by
  intro n
  induction n with
  | zero =>
    intro b c hb hc hq
    have e : c = 0 := by simp at hc; exact hc
    subst e
    rw [zy_st_le (Nat.zero_le _)] at hq
    refine sg_162_4 hY _ _ _ ⟨fun _ => ⟨fun h1 => ?_, fun h1 => ?_⟩, fun h1 => absurd ((zy_8 (by omega)).mpr (by omega)) h1⟩
    · rw [nI_eq (by omega) hs] at h1; rw [decide_eq_false h1] at hq; exact hq
    · rw [nI_eq (by omega) hs] at h1; rw [decide_eq_true h1] at hq; exact hq
  | succ n ih =>
    intro b c hb hc hq
    have h31 : c < 2 ^ 31 := Nat.lt_of_lt_of_le hc (Nat.le_trans (Nat.pow_le_pow_right (by omega) (show n + 1 ≤ 8 by omega)) (by decide))
    refine sg_162_4 hY _ _ _ ⟨fun h1 => absurd ((zy_8 (by omega)).mp h1) (by omega), fun _ => ⟨fun h1 => ⟨fun h2 => ?_, fun h2 => ?_⟩, fun h1 => ?_⟩⟩
    · rw [nI_leI h31 hs] at h1
      rw [nI_eq h31 hs] at h2; rw [zy_st_le h1, decide_eq_false h2] at hq; exact hq
    · rw [nI_leI h31 hs] at h1
      rw [nI_eq h31 hs] at h2; rw [zy_st_le h1, decide_eq_true h2] at hq; exact hq
    · rw [nI_leI h31 hs] at h1
      rw [zy_d7 h31, nI_1]
      rw [zy_st_gt (by omega)] at hq
      exact ih (b + 1) (c / 7) (by omega) (by rw [Nat.pow_succ] at hc; omega) hq
theorem zy_162 (hY : zx_lay Y) {c s : Nat} (hc : c < 5764801) (hs : s < 2 ^ 31) (hq : Q (if zy_st c s then 1 else 0) (I, L, Y)) : zx_Ci l E d 162 [.int (nI c), .int (nI s)] (I, L, Y) Q :=
  sg_162_0 hY _ _ (zy_162_4 hY hs 8 0 c rfl hc ⟨_, rfl, hq⟩)
theorem zy_163_7 (hY : zx_lay Y) : ∀ (n k a b : Nat), k + n = 16 → a < 2 ^ 31 → b < 2 ^ 31 → Qo (some (.int (nI (zy_shf n a b)))) (I, L, Y) → zx_To l E d 163 7 [none, none, some (.int (nI a)), some (.int (nI b)), some (.int (nI k))] [] (I, L, Y) Qo := by
  have h16 : ∀ i : Nat, i < 2 ^ 31 → ((16 : Int32) ≤ nI i ↔ 16 ≤ i) := fun i hi => nI_leI (a := 16) (by omega) hi
  intro n
  induction n with
  | zero =>
    intro k a b hk ha hb hq
    exact sg_163_7 hY _ _ _ ⟨fun _ => hq, fun h1 => absurd ((h16 _ (by omega)).mpr (by omega)) h1⟩
  | succ n ih =>
    intro k a b hk ha hb hq
    rw [zy_shf] at hq
    refine sg_163_7 hY _ _ _ ⟨fun h1 => absurd ((h16 _ (by omega)).mp h1) (by omega), fun _ => ⟨fun h1 => ?_, fun h1 => ⟨fun h2 => ?_, fun h2 => ?_⟩⟩⟩
    · rw [nI_eq ha hb] at h1; rw [if_pos h1] at hq; exact hq
    · rw [nI_eq ha hb] at h1; rw [nI_leI ha hb] at h2; rw [if_neg h1, if_pos h2] at hq
      rw [zy_d7 hb, nI_1]
      exact ih (k + 1) a (b / 7) (by omega) ha (by omega) hq
    · rw [nI_eq ha hb] at h1; rw [nI_leI ha hb] at h2; rw [if_neg h1, if_neg h2] at hq
      rw [zy_d7 ha, nI_1]
      exact ih (k + 1) (a / 7) b (by omega) (by omega) hb hq
theorem zy_163 (hY : zx_lay Y) {a b : Nat} (ha : a < 2 ^ 31) (hb : b < 2 ^ 31) (hq : Q (nI (zy_cp a b)) (I, L, Y)) : zx_Ci l E d 163 [.int (nI a), .int (nI b)] (I, L, Y) Q :=
  sg_163_0 hY _ _ (zy_163_7 hY 16 0 a b rfl ha hb ⟨_, rfl, hq⟩)
theorem zy_sub_nI {a b : Nat} (h : b ≤ a) (ha : a < 2 ^ 31) : nI a - nI b = nI (a - b) := by
  have e : nI (a - b) + nI b = nI (a - b + b) := nI_add _ _
  rw [show a - b + b = a by omega] at e
  rw [← e, Int32.add_sub_cancel]
theorem zy_164 (hY : zx_lay Y) {a b : Nat} (ha : a < 5764801) (hb : b < 5764801) {k : Int32} (hq : Q (if zy_cm a b k then 1 else 0) (I, L, Y)) : zx_Ci l E (d + 1) 164 [.int (nI a), .int (nI b), .int k] (I, L, Y) Q := by
  obtain ⟨g1, g2, g3⟩ := zy_cp_lt ha hb
  have la := zy_len8 ha
  have lb := zy_len8 hb
  unfold zy_cm at hq
  refine sg_164_0 hY _ _ _ (zy_163 hY (by omega) (by omega) ⟨hY, zy_161 hY g1 ⟨hY, fun h1 => ⟨_, rfl, ?_⟩, fun h1 => zy_161 hY ha ⟨hY, fun h2 => ⟨_, rfl, ?_⟩, fun h2 => zy_161 hY hb ⟨hY, fun h3 => ⟨_, rfl, ?_⟩, fun h3 => ⟨_, rfl, ?_⟩⟩⟩⟩⟩)
  all_goals rw [zy_le0 (by omega)] at h1
  · rw [decide_eq_false (by omega), Bool.false_and] at hq; exact hq
  all_goals rw [zy_sub_nI g2 (by omega)] at h2
  · rw [decide_eq_true h2, Bool.not_true, Bool.false_and, Bool.and_false] at hq; exact hq
  all_goals rw [zy_sub_nI g3 (by omega)] at h3
  · rw [decide_eq_true h3, Bool.not_true, Bool.and_false, Bool.and_false] at hq; exact hq
  · rw [decide_eq_false h2, decide_eq_false h3, decide_eq_true (by omega)] at hq; exact hq
/-- the model's firstOf -/
theorem zy_173 (hY : zx_lay Y) {c m : Nat} (hc : c < 2 ^ 31) (hm : m < 2 ^ 31) (hq : Q (nI (zy_pf c m)) (I, L, Y)) : zx_Ci l E (d + 1) 173 [.int (nI c), .int (nI m)] (I, L, Y) Q := by
  have h12 := zy_len31 hc
  refine sg_173_0 hY _ _ (zy_171 hY hc ⟨hY, ?_⟩)
  have key : ∀ i, zy_len c - m - i = 0 ∨ i < zy_len c - m := by omega
  have := zy_down (n := zy_len c - m) (P := fun i => zx_To l E (d + 1) 173 7 [none, some (.int (nI m)), some (.int (nI (c / 7 ^ i))), some (.int (nI (zy_len c - i)))] [] (I, L, Y) (fun r M' => ∃ v, r = some (.int v) ∧ Q v M')) ?_ (fun i hi ih => ?_)
  · simpa using this
  · refine sg_173_7 hY _ _ _ ⟨fun _ => ⟨_, rfl, hq⟩, fun h1 => absurd ((nI_leI (by omega) hm).mpr (by omega)) h1⟩
  · refine sg_173_7 hY _ _ _ ⟨fun h1 => absurd ((nI_leI (by omega) hm).mp h1) (by omega), fun _ => ?_⟩
    have e1 : zy_len c - i = (zy_len c - (i + 1)) + 1 := by omega
    have hd : c / 7 ^ i < 2 ^ 31 := Nat.lt_of_le_of_lt (Nat.div_le_self _ _) hc
    rw [zy_d7 hd, Nat.div_div_eq_div_mul, ← Nat.pow_succ, e1, zy_m1]
    exact ih
/-- the model's alike -/
theorem zy_174 (hY : zx_lay Y) {a b : Nat} (ha : a < 5764801) (hb : b < 5764801) (hq : Q (nI (zy_len (zy_cp a b))) (I, L, Y)) : zx_Ci l E (d + 2) 174 [.int (nI a), .int (nI b)] (I, L, Y) Q := by
  obtain ⟨g1, g2, g3⟩ := zy_cp_lt ha hb
  obtain ⟨f1, f2, f3⟩ := zy_cp_ok ha hb
  have la := zy_len8 ha
  have lb := zy_len8 hb
  have loop : ∀ n, n ≤ zy_len a → n ≤ zy_len b → zy_len (zy_cp a b) ≤ n → zx_To l E (d + 2) 174 12 [some (.int (nI a)), some (.int (nI b)), some (.int (nI n))] [] (I, L, Y) (fun r M' => ∃ v, r = some (.int v) ∧ Q v M') := by
    intro n
    induction n with
    | zero =>
      intro _ _ h3
      refine sg_174_12 hY _ _ _ ⟨fun _ => ⟨_, rfl, ?_⟩, fun h1 => absurd ((zy_le0 (by omega)).mpr rfl) h1⟩
      rw [show zy_len (zy_cp a b) = 0 by omega] at hq
      exact hq
    | succ n ih =>
      intro h1 h2 h3
      refine sg_174_12 hY _ _ _ ⟨fun q => absurd ((zy_le0 (by omega)).mp q) (by omega), fun _ => zy_173 hY (by omega) (by omega) ⟨hY, zy_173 hY (by omega) (by omega) ⟨hY, fun q => ⟨_, rfl, ?_⟩, fun q => ?_⟩⟩⟩
      all_goals rw [nI_eq (by have := zy_pf_le a (n + 1); omega) (by have := zy_pf_le b (n + 1); omega)] at q
      · have : zy_len (zy_cp a b) = n + 1 := by
          by_cases e : zy_len (zy_cp a b) < n + 1
          · exact absurd q (f3 (n + 1) e h1 h2)
          · omega
        rw [this] at hq
        exact hq
      · have : zy_len (zy_cp a b) ≠ n + 1 := fun e => q (by rw [← e, ← f1, ← f2])
        rw [zy_m1]
        exact ih (by omega) (by omega) (by omega)
  refine sg_174_0 hY _ _ (zy_171 hY (by omega) ⟨hY, zy_171 hY (by omega) ⟨hY, ?_⟩⟩)
  have e : (if nI (zy_len b) < nI (zy_len a) then nI (zy_len b) else nI (zy_len a)) = nI (if zy_len b < zy_len a then zy_len b else zy_len a) := by
    by_cases q : zy_len b < zy_len a
    · rw [if_pos q, if_pos ((nI_ltI (by omega) (by omega)).mpr q)]
    · rw [if_neg q, if_neg (fun z => q ((nI_ltI (by omega) (by omega)).mp z))]
  rw [e]
  refine loop _ ?_ ?_ ?_ <;> split <;> omega
theorem zy_195 (hY : zx_lay Y) {c s : Nat} (hc : c < 2 ^ 31) (hs : s < 2 ^ 31) (hq : Q (if zy_st c s then 1 else 0) (I, L, Y)) : zx_Ci l E (d + 2) 195 [.int (nI c), .int (nI s)] (I, L, Y) Q := by
  have := zy_len31 hs
  have h2 : zy_pf c (zy_len s) < 2 ^ 31 := Nat.lt_of_le_of_lt (zy_pf_le _ _) hc
  refine sg_195_0 hY _ _ (zy_171 hY hs ⟨hY, zy_173 hY hc (by omega) ⟨hY, fun h1 => ⟨_, rfl, ?_⟩, fun h1 => ⟨_, rfl, ?_⟩⟩⟩)
  all_goals rw [nI_eq h2 hs] at h1
  all_goals unfold zy_st at hq
  · rw [decide_eq_false h1] at hq; exact hq
  · rw [decide_eq_true h1] at hq; exact hq
theorem zy_216 (hY : zx_lay Y) {a b : Nat} (ha : a < 5764801) (hb : b < 5764801) {k : Int32} (hq : Q (if zy_cm a b k then 1 else 0) (I, L, Y)) : zx_Ci l E (d + 3) 216 [.int (nI a), .int (nI b), .int k] (I, L, Y) Q := by
  obtain ⟨g1, g2, g3⟩ := zy_cp_lt ha hb
  have la := zy_len8 ha
  have lb := zy_len8 hb
  unfold zy_cm at hq
  refine sg_216_0 hY _ _ _ (zy_174 hY ha hb ⟨hY, fun h1 => ⟨_, rfl, ?_⟩, fun h1 => zy_171 hY (by omega) ⟨hY, fun h2 => ⟨_, rfl, ?_⟩, fun h2 => zy_171 hY (by omega) ⟨hY, fun h3 => ⟨_, rfl, ?_⟩, fun h3 => ⟨_, rfl, ?_⟩⟩⟩⟩)
  all_goals rw [zy_le0 (by omega)] at h1
  · rw [decide_eq_false (by omega), Bool.false_and] at hq; exact hq
  all_goals rw [zy_sub_nI g2 (by omega)] at h2
  · rw [decide_eq_true h2, Bool.not_true, Bool.false_and, Bool.and_false] at hq; exact hq
  all_goals rw [zy_sub_nI g3 (by omega)] at h3
  · rw [decide_eq_true h3, Bool.not_true, Bool.and_false, Bool.and_false] at hq; exact hq
  · rw [decide_eq_false h2, decide_eq_false h3, decide_eq_true (by omega)] at hq; exact hq
end YP
