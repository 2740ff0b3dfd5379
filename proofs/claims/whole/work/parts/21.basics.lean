/-! ===== loops downward, bits, small methods ===== -/
theorem zy_down {n : Nat} {P : Nat → Prop} (hn : P n) (hs : ∀ i, i < n → P (i + 1) → P i) : P 0 := by
  have h : ∀ j, j ≤ n → P (n - j) := by
    intro j
    induction j with
    | zero => intro _; exact hn
    | succ j ih =>
      intro hj
      refine hs (n - (j + 1)) (by omega) ?_
      rw [show n - (j + 1) + 1 = n - j by omega]
      exact ih (by omega)
  have := h n (Nat.le_refl n)
  rwa [Nat.sub_self] at this
/-- bits of those of which p holds -/
def zy_or (p : Nat → Bool) : Nat → Int32
  | 0 => 0
  | i + 1 => if p i then zy_or p i ||| ((1 : Int32) <<< (nI i &&& 31)) else zy_or p i
def zy_sum (f : Nat → Int32) : Nat → Int32
  | 0 => 0
  | i + 1 => zy_sum f i + f i
theorem zy_or_cong {p q : Nat → Bool} : ∀ {n : Nat}, (∀ i, i < n → p i = q i) → zy_or p n = zy_or q n
  | 0, _ => rfl
  | n + 1, h => by
    rw [zy_or, zy_or, zy_or_cong (fun i hi => h i (by omega)), h n (by omega)]
theorem zy_or_ext {p : Nat → Bool} {m : Nat} : ∀ {n : Nat}, m ≤ n → (∀ i, m ≤ i → i < n → p i = false) → zy_or p n = zy_or p m
  | 0, h, _ => by rw [show m = 0 by omega]
  | n + 1, h, hp => by
    by_cases e : m = n + 1
    · rw [e]
    · rw [zy_or, hp n (by omega) (by omega)]
      exact zy_or_ext (by omega) (fun i h1 h2 => hp i h1 (by omega))
theorem zy_sum_ext {f : Nat → Int32} {m : Nat} : ∀ {n : Nat}, m ≤ n → (∀ i, m ≤ i → i < n → f i = 0) → zy_sum f n = zy_sum f m
  | 0, h, _ => by rw [show m = 0 by omega]
  | n + 1, h, hp => by
    by_cases e : m = n + 1
    · rw [e]
    · rw [zy_sum, hp n (by omega) (by omega), zy_sum_ext (by omega) (fun i h1 h2 => hp i h1 (by omega)), Int32.add_zero]
theorem zy_sum_cong {f g : Nat → Int32} : ∀ {n : Nat}, (∀ i, i < n → f i = g i) → zy_sum f n = zy_sum g n
  | 0, _ => rfl
  | n + 1, h => by
    rw [zy_sum, zy_sum, zy_sum_cong (fun i hi => h i (by omega)), h n (by omega)]
theorem zy_or0 (x : Int32) : x ||| 0 = x := by
  apply Int32.toBitVec_inj.mp
  simp
theorem zy_i0 : (0 : Int32).toInt = 0 := by decide
/-- literals against counters -/
theorem zy_lit_le {k i : Nat} (hk : k < 2 ^ 31) (hi : i < 2 ^ 31) : Int32.ofNat k ≤ nI i ↔ k ≤ i := nI_leI hk hi
theorem zy_10 {i : Nat} (hi : i < 2 ^ 31) : (10 : Int32) ≤ nI i ↔ 10 ≤ i := nI_leI (a := 10) (by omega) hi
theorem zy_8 {i : Nat} (hi : i < 2 ^ 31) : (8 : Int32) ≤ nI i ↔ 8 ≤ i := nI_leI (a := 8) (by omega) hi
theorem zy_6 {i : Nat} (hi : i < 2 ^ 31) : (6 : Int32) ≤ nI i ↔ 6 ≤ i := nI_leI (a := 6) (by omega) hi
theorem zy_4 {i : Nat} (hi : i < 2 ^ 31) : (4 : Int32) ≤ nI i ↔ 4 ≤ i := nI_leI (a := 4) (by omega) hi
theorem zy_60 {i : Nat} (hi : i < 2 ^ 31) : (60 : Int32) ≤ nI i ↔ 60 ≤ i := nI_leI (a := 60) (by omega) hi
/-- one of 0 .. P - 1 -/
def zy_one (P : Nat) (x : Int32) : Bool := decide (0 ≤ x.toInt ∧ x.toInt < P)
theorem zy_one_at {P : Nat} {x : Int32} (h : zy_one P x = true) (hP : P < 2 ^ 31) : ∃ i : Nat, i < P ∧ x = nI i := by
  simp only [zy_one, decide_eq_true_eq] at h
  refine ⟨x.toInt.toNat, by omega, ?_⟩
  apply Int32.toInt_inj.mp
  rw [nI_toInt (by omega)]
  omega
theorem zy_lg {x y : Int64} : (lg_cmp x y < 0 ↔ x < y) ∧ (0 < lg_cmp x y ↔ y < x) := by
  unfold lg_cmp
  by_cases h1 : x > y
  · rw [if_pos h1]
    exact ⟨⟨fun q => absurd q (by decide), fun q => absurd (Int64.lt_trans q h1) (Int64.lt_irrefl)⟩, ⟨fun _ => h1, fun _ => by decide⟩⟩
  · rw [if_neg h1]
    by_cases h2 : x = y
    · rw [if_pos h2]
      subst h2
      exact ⟨⟨fun q => absurd q (by decide), fun q => absurd q (Int64.lt_irrefl)⟩, ⟨fun q => absurd q (by decide), fun q => absurd q (Int64.lt_irrefl)⟩⟩
    · rw [if_neg h2]
      refine ⟨⟨fun _ => ?_, fun _ => by decide⟩, ⟨fun q => absurd q (by decide), fun q => absurd q h1⟩⟩
      exact (Int64.lt_or_lt_of_ne h2).resolve_right h1
section YB
variable {l : Launch} {E : zx_E} {d : Nat} {I : Nat → Nat → Int32} {L : Nat → Nat → Int64} {Y : zx_Y} {Qo : Option Value → zx_M → Prop} {Q : Int32 → zx_M → Prop} {Qv : zx_M → Prop}
/-- in -/
theorem zy_167 (hY : zx_lay Y) {v lo hi : Int64} (hq : Q (if decide (lo ≤ v ∧ v ≤ hi) then 1 else 0) (I, L, Y)) : zx_Ci l E d 167 [.long v, .long lo, .long hi] (I, L, Y) Q := by
  refine sg_167_0 hY _ _ _ ⟨fun h1 => ⟨_, rfl, ?_⟩, fun h1 => ⟨fun h2 => ⟨_, rfl, ?_⟩, fun h2 => ⟨_, rfl, ?_⟩⟩⟩
  · rw [zy_lg.1] at h1
    rw [decide_eq_false (fun q => absurd h1 (Int64.not_lt.mpr q.1))] at hq
    exact hq
  · rw [zy_lg.2] at h2
    rw [decide_eq_false (fun q => absurd h2 (Int64.not_lt.mpr q.2))] at hq
    exact hq
  · rw [zy_lg.1] at h1
    rw [zy_lg.2] at h2
    rw [decide_eq_true ⟨Int64.not_lt.mp h1, Int64.not_lt.mp h2⟩] at hq
    exact hq
/-- in, of ints -/
theorem zy_167i (hY : zx_lay Y) {v : Int32} {lo hi : Int64} {b : Bool} (hb : b = decide (lo.toInt ≤ v.toInt ∧ v.toInt ≤ hi.toInt)) (hq : Q (if b then 1 else 0) (I, L, Y)) : zx_Ci l E d 167 [.long v.toInt64, .long lo, .long hi] (I, L, Y) Q := by
  refine zy_167 hY ?_
  have e : decide (lo ≤ v.toInt64 ∧ v.toInt64 ≤ hi) = b := by
    rw [hb, decide_eq_decide, Int64.le_iff_toInt_le, Int64.le_iff_toInt_le, Int32.toInt_toInt64]
  rw [e]
  exact hq
theorem zy_168 (hY : zx_lay Y) {x y : Int32} (hq : Q (if decide (((x >>> (y &&& 31)) &&& (1 : Int32)) = 1) then 1 else 0) (I, L, Y)) : zx_Ci l E d 168 [.int x, .int y] (I, L, Y) Q := by
  refine sg_168_0 hY _ _ ⟨fun h1 => ⟨_, rfl, ?_⟩, fun h1 => ⟨_, rfl, ?_⟩⟩
  · rw [decide_eq_false h1] at hq; exact hq
  · rw [decide_eq_true h1] at hq; exact hq
theorem zy_169 (hY : zx_lay Y) {x : Int32} (hq : Q (if decide (x = 0) then 0 else 1) (I, L, Y)) : zx_Ci l E d 169 [.int x] (I, L, Y) Q := by
  refine sg_169_0 hY _ ⟨fun h1 => ⟨_, rfl, ?_⟩, fun h1 => ⟨_, rfl, ?_⟩⟩
  · rw [decide_eq_true h1] at hq; exact hq
  · rw [decide_eq_false h1] at hq; exact hq
/-- isPerson -/
theorem zy_175 (hY : zx_lay Y) {P : Nat} (hP : P ≤ 10) (hp : I 132 3 = nI P) {x : Int32} (hq : Q (if zy_one P x then 1 else 0) (I, L, Y)) : zx_Ci l E (d + 1) 175 [.ref 132, .int x] (I, L, Y) Q := by
  refine sg_175_0 hY _ (zy_167i hY (b := zy_one P x) ?_ ⟨hY, by cases zy_one P x <;> simp, ⟨_, rfl, hq⟩⟩)
  rw [hp]
  unfold zy_one
  rw [decide_eq_decide, Int32.toInt_toInt64]
  have e1 : (0 : Int64).toInt = 0 := by decide
  have e2 : (nI P - 1).toInt = (P : Int) - 1 := by
    have := pk_sub_toInt (a := P) (b := 1) (by omega) (by omega)
    exact this
  rw [e1, e2]
  omega
/-- Crowd.has -/
theorem zy_1 (hY : zx_lay Y) {P : Nat} (hP : P ≤ 10) (hp : I 8 7 = nI P) {x : Int32} (hq : Q (if zy_one P x then 1 else 0) (I, L, Y)) : zx_Ci l E d 1 [.ref 8, .int x] (I, L, Y) Q := by
  have hl : ∀ k : Nat, k < 2 ^ 31 → (nI k ≤ x ↔ (k : Int) ≤ x.toInt) := fun k hk => by rw [Int32.le_iff_toInt_le, nI_toInt hk]
  refine sg_1_0 hY _ ⟨fun h1 => ⟨_, rfl, ?_⟩, fun h1 => ⟨fun h2 => ⟨_, rfl, ?_⟩, fun h2 => ⟨fun h3 => ⟨_, rfl, ?_⟩, fun h3 => ⟨_, rfl, ?_⟩⟩⟩⟩
  · have : zy_one P x = false := decide_eq_false (fun q => by rw [Int32.lt_iff_toInt_lt] at h1; have := zy_i0; omega)
    rw [this] at hq; exact hq
  · rw [hp, hl P (by omega)] at h2
    have : zy_one P x = false := decide_eq_false (fun q => by omega)
    rw [this] at hq; exact hq
  · have h3' := (hl 10 (by omega)).mp h3
    have : zy_one P x = false := decide_eq_false (fun q => by omega)
    rw [this] at hq; exact hq
  · rw [hp, hl P (by omega)] at h2
    have : zy_one P x = true := decide_eq_true ⟨by rw [Int32.lt_iff_toInt_lt] at h1; have := zy_i0; omega, by omega⟩
    rw [this] at hq; exact hq
/-- Crowd.named -/
theorem zy_c4 (hY : zx_lay Y) (hq : Q (zy_or (fun p => decide (I 9 p ≠ 0)) 10) (I, L, Y)) : zx_Ci l E d 4 [.ref 8] (I, L, Y) Q := by
  refine sg_4_0 hY ?_
  refine zy_down (n := 10) (P := fun i => zx_To l E d 4 4 [some (.ref 8), some (.int (zy_or (fun p => decide (I 9 p ≠ 0)) i)), some (.int (nI i))] [] (I, L, Y) _) ?_ (fun i hi ih => ?_)
  · exact sg_4_4 hY _ _ ⟨fun _ => ⟨_, rfl, hq⟩, fun h1 => absurd ((zy_10 (by omega)).mpr (Nat.le_refl _)) h1⟩
  · refine sg_4_4 hY _ _ ⟨fun h1 => absurd ((zy_10 (by omega)).mp h1) (by omega), fun _ => ⟨vp_in_nI hi (by omega), fun h2 => ?_, fun h2 => ?_⟩⟩
    · rw [nI_clamp (by omega)] at h2
      have e : zy_or (fun p => decide (I 9 p ≠ 0)) (i + 1) = zy_or (fun p => decide (I 9 p ≠ 0)) i := by simp [zy_or, h2]
      rw [nI_1, ← e]
      exact ih
    · rw [nI_clamp (by omega)] at h2
      have e : zy_or (fun p => decide (I 9 p ≠ 0)) (i + 1) = zy_or (fun p => decide (I 9 p ≠ 0)) i ||| ((1 : Int32) <<< (nI i &&& 31)) := by simp [zy_or, h2]
      rw [nI_1, ← e]
      exact ih
/-- Crowd.whoHas -/
theorem zy_c5 (hY : zx_lay Y) {x : Int32} (hq : Q (zy_or (fun p => decide (I 9 p = x)) 10) (I, L, Y)) : zx_Ci l E d 5 [.ref 8, .int x] (I, L, Y) Q := by
  refine sg_5_0 hY _ ?_
  refine zy_down (n := 10) (P := fun i => zx_To l E d 5 4 [some (.ref 8), some (.int x), some (.int (zy_or (fun p => decide (I 9 p = x)) i)), some (.int (nI i))] [] (I, L, Y) _) ?_ (fun i hi ih => ?_)
  · exact sg_5_4 hY _ _ _ ⟨fun _ => ⟨_, rfl, hq⟩, fun h1 => absurd ((zy_10 (by omega)).mpr (Nat.le_refl _)) h1⟩
  · refine sg_5_4 hY _ _ _ ⟨fun h1 => absurd ((zy_10 (by omega)).mp h1) (by omega), fun _ => ⟨vp_in_nI hi (by omega), fun h2 => ?_, fun h2 => ?_⟩⟩
    · rw [nI_clamp (by omega)] at h2
      have e : zy_or (fun p => decide (I 9 p = x)) (i + 1) = zy_or (fun p => decide (I 9 p = x)) i := by simp [zy_or, h2]
      rw [nI_1, ← e]
      exact ih
    · rw [nI_clamp (by omega)] at h2
      have e : zy_or (fun p => decide (I 9 p = x)) (i + 1) = zy_or (fun p => decide (I 9 p = x)) i ||| ((1 : Int32) <<< (nI i &&& 31)) := by simp [zy_or, h2]
      rw [nI_1, ← e]
      exact ih
/-- Crowd.answers -/
theorem zy_c7 (hY : zx_lay Y) (hq : Q (zy_sum (I 10) 10) (I, L, Y)) : zx_Ci l E d 7 [.ref 8] (I, L, Y) Q := by
  refine sg_7_0 hY ?_
  refine zy_down (n := 10) (P := fun i => zx_To l E d 7 4 [some (.ref 8), some (.int (zy_sum (I 10) i)), some (.int (nI i))] [] (I, L, Y) _) ?_ (fun i hi ih => ?_)
  · exact sg_7_4 hY _ _ ⟨fun _ => ⟨_, rfl, hq⟩, fun h1 => absurd ((zy_10 (by omega)).mpr (Nat.le_refl _)) h1⟩
  · refine sg_7_4 hY _ _ ⟨fun h1 => absurd ((zy_10 (by omega)).mp h1) (by omega), fun _ => ⟨vp_in_nI hi (by omega), ?_⟩⟩
    rw [nI_1, nI_clamp (by omega)]
    exact ih
/-- the model's whoHave -/
theorem zy_189 (hY : zx_lay Y) {P : Nat} (hP : P ≤ 10) (hp : I 132 3 = nI P) {x : Int32} (hq : Q (zy_or (fun p => decide (I 134 p = x)) P) (I, L, Y)) : zx_Ci l E d 189 [.ref 132, .int x] (I, L, Y) Q := by
  refine sg_189_0 hY _ ?_
  refine zy_down (n := P) (P := fun i => zx_To l E d 189 4 [some (.ref 132), some (.int x), some (.int (zy_or (fun p => decide (I 134 p = x)) i)), some (.int (nI i))] [] (I, L, Y) _) ?_ (fun i hi ih => ?_)
  · exact sg_189_4 hY _ _ _ ⟨fun _ => ⟨_, rfl, hq⟩, fun h1 => absurd (by rw [hp]; exact (nI_leI (by omega) (by omega)).mpr (Nat.le_refl _)) h1⟩
  · refine sg_189_4 hY _ _ _ ⟨fun h1 => ?_, fun _ => ⟨vp_in_nI (by omega) (by omega), fun h2 => ?_, fun h2 => ?_⟩⟩
    · rw [hp, nI_leI (by omega) (by omega)] at h1; omega
    · rw [nI_clamp (by omega)] at h2
      have e : zy_or (fun p => decide (I 134 p = x)) (i + 1) = zy_or (fun p => decide (I 134 p = x)) i := by simp [zy_or, h2]
      rw [nI_1, zy_or0, ← e]
      exact ih
    · rw [nI_clamp (by omega)] at h2
      have e : zy_or (fun p => decide (I 134 p = x)) (i + 1) = zy_or (fun p => decide (I 134 p = x)) i ||| ((1 : Int32) <<< (nI i &&& 31)) := by simp [zy_or, h2]
      rw [nI_1, ← e]
      exact ih
end YB
