/-! ===== reading the text ===== -/
/-- the sign at a place, 999 if there is none that may be read -/
def zt_s (T : Nat → Nat) (to i : Nat) : Nat := if i < to then T i else 999
def zt_let (s : Nat) : Bool := decide (97 ≤ s) && decide (s ≤ 102)
def zt_dig (s : Nat) : Bool := decide (49 ≤ s) && decide (s ≤ 57)
/-- the class's reader stands at i -/
def zt_C (I : Nat → Nat → Int32) (T : Nat → Nat) (n lim i : Nat) : Prop := (I 4 1 = nI n ∧ I 4 2 = nI lim ∧ I 4 3 = nI i) ∧ ∀ j, j < n → I 5 j = nI (T j)
def zt_M (I : Nat → Nat → Int32) (T : Nat → Nat) (to i : Nat) : Prop := (I 132 16 = nI to ∧ I 132 15 = nI i) ∧ ∀ j, j < to → I 140 j = nI (T j)
/-- sizes -/
def zt_ok (T : Nat → Nat) (n lim : Nat) : Prop := n ≤ 80 ∧ lim ≤ 80 ∧ ∀ j, j < n → T j < 256
def zt_lk (T : Nat → Nat) (n lim i : Nat) : Int32 := if n ≤ i then -1 else if lim ≤ i then -2 else nI (T i)
theorem zt_lk_eq {T : Nat → Nat} {n lim i : Nat} (hk : zt_ok T n lim) {s : Nat} (hs : s < 256) : zt_lk T n lim i = nI s ↔ zt_s T (min n lim) i = s := by
  unfold zt_lk zt_s
  by_cases h1 : n ≤ i
  · rw [if_pos h1, if_neg (by omega)]
    constructor
    · intro q
      have := congrArg Int32.toInt q
      rw [nI_toInt (by omega), show (-1 : Int32).toInt = -1 by decide] at this; omega
    · intro q; omega
  · rw [if_neg h1]
    by_cases h2 : lim ≤ i
    · rw [if_pos h2, if_neg (by omega)]
      constructor
      · intro q
        have := congrArg Int32.toInt q
        rw [nI_toInt (by omega), show (-2 : Int32).toInt = -2 by decide] at this; omega
      · intro q; omega
    · have := hk.2.2 i (by omega)
      rw [if_neg h2, if_pos (by omega), nI_eq (by omega) (by omega)]
theorem zt_lk_end {T : Nat → Nat} {n lim i : Nat} (hk : zt_ok T n lim) : zt_lk T n lim i = -1 ↔ n ≤ i := by
  unfold zt_lk
  by_cases h1 : n ≤ i
  · rw [if_pos h1]; exact ⟨fun _ => h1, fun _ => rfl⟩
  · rw [if_neg h1]
    refine ⟨fun q => ?_, fun q => absurd q h1⟩
    by_cases h2 : lim ≤ i
    · rw [if_pos h2] at q; exact absurd q (by decide)
    · have h3 := hk.2.2 i (by omega)
      rw [if_neg h2] at q
      have := congrArg Int32.toInt q
      rw [nI_toInt (by omega), show (-1 : Int32).toInt = -1 by decide] at this; omega
/-- look less a sign -/
theorem zt_lk_sub {T : Nat → Nat} {n lim i : Nat} (hk : zt_ok T n lim) (b : Nat) (hb : b < 256) : (zt_lk T n lim i - nI b).toInt = if i < min n lim then (T i : Int) - b else if n ≤ i then -1 - (b : Int) else -2 - (b : Int) := by
  have key : ∀ x : Int32, -2 ≤ x.toInt → x.toInt < 256 → (x - nI b).toInt = x.toInt - b := fun x h1 h2 => by
    rw [Int32.toInt_sub, nI_toInt (by omega)]
    exact Int.bmod_eq_of_le (by omega) (by omega)
  unfold zt_lk
  by_cases h1 : n ≤ i
  · rw [if_pos h1, if_neg (by omega), if_pos h1, key _ (by decide) (by decide)]; rfl
  · rw [if_neg h1]
    by_cases h2 : lim ≤ i
    · rw [if_pos h2, if_neg (by omega), if_neg h1, key _ (by decide) (by decide)]; rfl
    · have h3 := hk.2.2 i (by omega)
      rw [if_neg h2, if_pos (by omega), key _ (by rw [nI_toInt (by omega)]; omega) (by rw [nI_toInt (by omega)]; omega), nI_toInt (by omega)]
/-- letters from a place on: the code, the place behind -/
def zt_run (T : Nat → Nat) (to : Nat) : Nat → Nat → Nat → Nat × Nat
  | 0, i, c => (c, i)
  | f + 1, i, c => if zt_let (zt_s T to i) then zt_run T to f (i + 1) (c * 7 + (T i - 96)) else (c, i)
theorem zt_let_lt {T : Nat → Nat} {to i : Nat} (h : zt_let (zt_s T to i) = true) : i < to ∧ 97 ≤ T i ∧ T i ≤ 102 := by
  simp only [zt_let, Bool.and_eq_true, decide_eq_true_eq] at h
  unfold zt_s at h
  by_cases q : i < to
  · rw [if_pos q] at h; exact ⟨q, h⟩
  · rw [if_neg q] at h; omega
theorem zt_dig_lt {T : Nat → Nat} {to i : Nat} (h : zt_dig (zt_s T to i) = true) : i < to ∧ 49 ≤ T i ∧ T i ≤ 57 := by
  simp only [zt_dig, Bool.and_eq_true, decide_eq_true_eq] at h
  unfold zt_s at h
  by_cases q : i < to
  · rw [if_pos q] at h; exact ⟨q, h⟩
  · rw [if_neg q] at h; omega
theorem zt_s_lt {T : Nat → Nat} {to i s : Nat} (h : zt_s T to i = s) (hs : s < 256) : i < to ∧ T i = s := by
  unfold zt_s at h
  by_cases q : i < to
  · rw [if_pos q] at h; exact ⟨q, h⟩
  · rw [if_neg q] at h; omega
theorem zt_run_ok {T : Nat → Nat} {to : Nat} : ∀ (f i c : Nat), i ≤ to → zy_dig c = true → c < 7 ^ (8 - f) → f ≤ 8 →
    let q := zt_run T to f i c
    zy_dig q.1 = true ∧ q.1 < 5764801 ∧ q.2 ≤ to ∧ i ≤ q.2 ∧ q.2 ≤ i + f ∧ zy_len q.1 = zy_len c + (q.2 - i) ∧ (q.2 < i + f → zt_let (zt_s T to q.2) = false)
  | 0, i, c, hi, hd, hc, _ => ⟨hd, hc, hi, Nat.le_refl _, Nat.le_refl _, by simp [zt_run], fun h => absurd h (Nat.lt_irrefl _)⟩
  | f + 1, i, c, hi, hd, hc, hf => by
    dsimp only
    rw [zt_run]
    by_cases h : zt_let (zt_s T to i) = true
    · rw [if_pos h]
      obtain ⟨g1, g2, g3⟩ := zt_let_lt h
      have hm : (c * 7 + (T i - 96)) % 7 = T i - 96 := by omega
      have hdv : (c * 7 + (T i - 96)) / 7 = c := by omega
      have hd2 : zy_dig (c * 7 + (T i - 96)) = true := by
        rw [zy_dig_s (by omega), hm, hdv, hd, Bool.and_true]
        exact decide_eq_true (by omega)
      have hc2 : c * 7 + (T i - 96) < 7 ^ (8 - f) := by
        rw [show 8 - f = (8 - (f + 1)) + 1 by omega, Nat.pow_succ]; omega
      obtain ⟨r1, r2, r3, r4, r5, r6, r7⟩ := zt_run_ok (T := T) (to := to) f (i + 1) (c * 7 + (T i - 96)) (by omega) hd2 hc2 (by omega)
      have hl : zy_len (c * 7 + (T i - 96)) = zy_len c + 1 := by rw [zy_len_s (by omega), hdv]
      refine ⟨r1, r2, r3, by omega, by omega, ?_, fun q => r7 (by omega)⟩
      rw [r6, hl]; omega
    · rw [if_neg h]
      have hc3 : c < 5764801 := Nat.lt_of_lt_of_le hc (Nat.pow_le_pow_right (n := 7) (by omega) (show 8 - (f + 1) ≤ 8 by omega))
      exact ⟨hd, hc3, hi, Nat.le_refl _, by omega, by show zy_len c = zy_len c + (i - i); omega, fun _ => by simpa using h⟩
section YRd
variable {l : Launch} {E : zx_E} {d : Nat} {I : Nat → Nat → Int32} {L : Nat → Nat → Int64} {Y : zx_Y} {Qo : Option Value → zx_M → Prop} {Q : Int32 → zx_M → Prop} {Qv : zx_M → Prop} {T : Nat → Nat} {n lim i to : Nat}
theorem zy_112 (hY : zx_lay Y) (hk : zt_ok T n lim) (hi : i ≤ 80) (hC : zt_C I T n lim i) (hq : Q (zt_lk T n lim i) (I, L, Y)) : zx_Ci l E d 112 [.ref 4] (I, L, Y) Q := by
  obtain ⟨⟨h1, h2, h3⟩, h4⟩ := hC
  unfold zt_lk at hq
  refine sg_112_0 hY ⟨fun h => ?_, fun _ => ⟨fun h => ⟨_, rfl, ?_⟩, fun h => ⟨fun _ => ⟨fun h5 => ⟨_, rfl, ?_⟩, fun h5 => ⟨?_, _, rfl, ?_⟩⟩, fun h5 => ?_⟩⟩⟩
  · rw [h3] at h; exact absurd h (nI_pos (by omega))
  · rw [h1, h3, nI_leI (by have := hk.1; omega) (by omega)] at h
    rw [if_pos h] at hq; exact hq
  · rw [h1, h3, nI_leI (by have := hk.1; omega) (by omega)] at h
    rw [h2, h3, nI_leI (by have := hk.2.1; omega) (by omega)] at h5
    rw [if_neg h, if_pos h5] at hq; exact hq
  · rw [h1, h3, nI_leI (by have := hk.1; omega) (by omega)] at h
    rw [h3]; exact vp_in_nI (by have := hk.1; omega) (by omega)
  · rw [h1, h3, nI_leI (by have := hk.1; omega) (by omega)] at h
    rw [h2, h3, nI_leI (by have := hk.2.1; omega) (by omega)] at h5
    rw [if_neg h, if_neg h5] at hq
    rw [h3, nI_clamp (by omega), h4 i (by omega)]; exact hq
  · rw [h1, h3, nI_leI (by have := hk.1; omega) (by omega)] at h
    rw [h3] at h5
    exact absurd ((nI_ltI (b := 80) (by omega) (by omega)).mpr (by have := hk.1; omega)) h5
theorem zy_114 (hY : zx_lay Y) (hk : zt_ok T n lim) (hi : i ≤ 80) (hC : zt_C I T n lim i) {s : Nat} (hs : s < 256) (hq : if zt_s T (min n lim) i = s then Q 1 (zx_u2 I 4 3 (nI (i + 1)), L, Y) else Q 0 (I, L, Y)) : zx_Ci l E (d + 1) 114 [.ref 4, .int (nI s)] (I, L, Y) Q := by
  refine sg_114_0 hY _ (zy_112 hY hk hi hC ⟨hY, fun h => ⟨_, rfl, ?_⟩, fun h => ⟨_, rfl, ?_⟩⟩)
  · rw [zt_lk_eq hk hs] at h
    rw [if_pos h] at hq
    show Q 1 (zx_u2 I 4 3 (I 4 3 + 1), L, Y)
    rw [hC.1.2.2, nI_1]; exact hq
  · rw [zt_lk_eq hk hs] at h
    rw [if_neg h] at hq; exact hq
theorem zy_115 (hY : zx_lay Y) (hk : zt_ok T n lim) (hi : i ≤ 80) (hC : zt_C I T n lim i) (hq : if zt_dig (zt_s T (min n lim) i) then Q (nI (T i - 48)) (zx_u2 I 4 3 (nI (i + 1)), L, Y) else Q 0 (I, L, Y)) : zx_Ci l E (d + 1) 115 [.ref 4] (I, L, Y) Q := by
  have e := zt_lk_sub (i := i) hk 48 (by omega)
  have e48 : (48 : Int32) = nI 48 := by decide
  have e1 : (1 : Int32).toInt = 1 := by decide
  have e9 : (9 : Int32).toInt = 9 := by decide
  have hd : zt_dig (zt_s T (min n lim) i) = decide (1 ≤ (zt_lk T n lim i - nI 48).toInt ∧ (zt_lk T n lim i - nI 48).toInt ≤ 9) := by
    rw [e]
    unfold zt_dig zt_s
    by_cases q : i < min n lim
    · rw [if_pos q, if_pos q, ← Bool.decide_and, decide_eq_decide]; omega
    · rw [if_neg q, if_neg q]
      by_cases q2 : n ≤ i
      · rw [if_pos q2]; decide
      · rw [if_neg q2]; decide
  refine sg_115_0 hY (zy_112 hY hk hi hC ⟨hY, fun h => ⟨_, rfl, ?_⟩, fun h => ⟨fun h2 => ⟨_, rfl, ?_⟩, fun h2 => ⟨_, rfl, ?_⟩⟩⟩)
  · rw [e48, Int32.lt_iff_toInt_lt, e1] at h
    rw [hd, decide_eq_false (by omega)] at hq; exact hq
  · rw [e48, Int32.lt_iff_toInt_lt, e1] at h
    rw [e48, Int32.le_iff_toInt_le, e9] at h2
    have hd' : zt_dig (zt_s T (min n lim) i) = true := by rw [hd]; exact decide_eq_true (by omega)
    rw [hd'] at hq
    obtain ⟨g1, g2, g3⟩ := zt_dig_lt hd'
    have ev : zt_lk T n lim i - 48 = nI (T i - 48) := by
      unfold zt_lk
      rw [if_neg (by omega), if_neg (by omega)]
      exact pk_sub (b := 48) (by omega)
    show Q (zt_lk T n lim i - 48) (zx_u2 I 4 3 (I 4 3 + 1), L, Y)
    rw [ev, hC.1.2.2, nI_1]; exact hq
  · rw [e48, Int32.le_iff_toInt_le, e9] at h2
    rw [hd, decide_eq_false (by omega)] at hq; exact hq
/-- takeName leaves the place, the code, how many letters -/
def zt_tn (I : Nat → Nat → Int32) (i c k : Nat) : Nat → Nat → Int32 := fun a y => if a = 4 ∧ y = 3 then nI i else if a = 4 ∧ y = 4 then nI c else if a = 4 ∧ y = 5 then nI k else I a y
theorem zy_116 (hY : zx_lay Y) (hk : zt_ok T n lim) (hi : i ≤ min n lim) (hC : zt_C I T n lim i) (hq : Qv (zt_tn I (zt_run T (min n lim) 8 i 0).2 (zt_run T (min n lim) 8 i 0).1 ((zt_run T (min n lim) 8 i 0).2 - i), L, Y)) : zx_Cv l E (d + 1) 116 [.ref 4] (I, L, Y) Qv := by
  have hn80 : n ≤ 80 := hk.1
  have loop : ∀ f j c, f + (j - i) = 8 → i ≤ j → j ≤ min n lim → c < 7 ^ (8 - f) → Qv (zt_tn I (zt_run T (min n lim) f j c).2 (zt_run T (min n lim) f j c).1 ((zt_run T (min n lim) f j c).2 - i), L, Y) → zx_To l E (d + 1) 116 12 [some (.ref 4), some (.int (nI (j - i))), none] [] (zt_tn I j c (j - i), L, Y) (fun r M' => r = none ∧ Qv M') := by
    intro f
    induction f with
    | zero =>
      intro j c hf h1 h2 h3 hq
      exact sg_116_12 hY _ ⟨fun _ => ⟨rfl, hq⟩, fun h => absurd ((zy_8 (by omega)).mpr (by omega)) h⟩
    | succ f ih =>
      intro j c hf h1 h2 h3 hq
      have hC' : zt_C (zt_tn I j c (j - i)) T n lim j := by
        refine ⟨⟨?_, ?_, ?_⟩, fun x hx => ?_⟩
        · unfold zt_tn; rw [if_neg (by omega), if_neg (by omega), if_neg (by omega)]; exact hC.1.1
        · unfold zt_tn; rw [if_neg (by omega), if_neg (by omega), if_neg (by omega)]; exact hC.1.2.1
        · unfold zt_tn; rw [if_pos ⟨rfl, rfl⟩]
        · unfold zt_tn; rw [if_neg (by omega), if_neg (by omega), if_neg (by omega)]; exact hC.2 x hx
      have e := zt_lk_sub (i := j) hk 97 (by omega)
      have e97 : (97 : Int32) = nI 97 := by decide
      have e1 : (1 : Int32).toInt = 1 := by decide
      have e6 : (6 : Int32).toInt = 6 := by decide
      have ea : (zt_lk T n lim j - 97 + 1).toInt = (zt_lk T n lim j - nI 97).toInt + 1 := by
        rw [← e97]
        rw [e97, Int32.toInt_add, e1, e]
        split
        · have := hk.2.2 j (by omega)
          exact Int.bmod_eq_of_le (by omega) (by omega)
        · split <;> exact Int.bmod_eq_of_le (by omega) (by omega)
      have hd : zt_let (zt_s T (min n lim) j) = decide (1 ≤ (zt_lk T n lim j - 97 + 1).toInt ∧ (zt_lk T n lim j - 97 + 1).toInt ≤ 6) := by
        rw [ea, e]
        unfold zt_let zt_s
        by_cases q : j < min n lim
        · rw [if_pos q, if_pos q, ← Bool.decide_and, decide_eq_decide]; omega
        · rw [if_neg q, if_neg q]
          by_cases q2 : n ≤ j
          · rw [if_pos q2]; decide
          · rw [if_neg q2]; decide
      rw [zt_run] at hq
      refine sg_116_12 hY _ ⟨fun h => absurd ((zy_8 (by omega)).mp h) (by omega), fun _ => zy_112 hY hk (by omega) hC' ⟨hY, fun h => ?_, fun h => ⟨fun h5 => ?_, fun h5 => ?_⟩⟩⟩
      · rw [Int32.lt_iff_toInt_lt, e1] at h
        rw [hd, decide_eq_false (by omega)] at hq; exact ⟨rfl, hq⟩
      · rw [Int32.lt_iff_toInt_lt, e1] at h
        rw [Int32.le_iff_toInt_le, e6] at h5
        have hd' : zt_let (zt_s T (min n lim) j) = true := by rw [hd]; exact decide_eq_true (by omega)
        rw [if_pos hd'] at hq
        obtain ⟨g1, g2, g3⟩ := zt_let_lt hd'
        have ev : zt_lk T n lim j - 97 + 1 = nI (T j - 96) := by
          unfold zt_lk
          rw [if_neg (by omega), if_neg (by omega)]
          have a1 : nI (T j) - 97 = nI (T j - 97) := pk_sub (b := 97) (by omega)
          rw [a1, nI_1, show T j - 97 + 1 = T j - 96 by omega]
        have hpow : (7 : Nat) ^ (8 - (f + 1)) ≤ 823543 := Nat.le_trans (Nat.pow_le_pow_right (by omega) (show 8 - (f + 1) ≤ 7 by omega)) (by decide)
        have hc2 : c * 7 + (T j - 96) < 7 ^ (8 - f) := by
          rw [show 8 - f = (8 - (f + 1)) + 1 by omega, Nat.pow_succ]; omega
        have nx := ih (j + 1) (c * 7 + (T j - 96)) (by omega) (by omega) (by omega) hc2 hq
        rw [nI_1, show j - i + 1 = j + 1 - i by omega]
        refine (congrArg (fun J => zx_To l E (d + 1) 116 12 [some (.ref 4), some (.int (nI (j + 1 - i))), none] [] (J, L, Y) (fun r M' => r = none ∧ Qv M')) ?_).mp nx
        have v4 : zt_tn I j c (j - i) 4 4 = nI c := by unfold zt_tn; rw [if_neg (by omega), if_pos ⟨rfl, rfl⟩]
        have v5 : zt_tn I j c (j - i) 4 5 = nI (j - i) := by unfold zt_tn; rw [if_neg (by omega), if_neg (by omega), if_pos ⟨rfl, rfl⟩]
        have v3 : zt_tn I j c (j - i) 4 3 = nI j := by unfold zt_tn; rw [if_pos ⟨rfl, rfl⟩]
        show zt_tn I (j + 1) (c * 7 + (T j - 96)) (j + 1 - i) = zx_u2 (zx_u2 (zx_u2 (zt_tn I j c (j - i)) 4 4 (zt_tn I j c (j - i) 4 4 * 7 + (zt_lk T n lim j - 97 + 1))) 4 5 (zt_tn I j c (j - i) 4 5 + 1)) 4 3 (zt_tn I j c (j - i) 4 3 + 1)
        rw [v4, v5, v3, ev, nI_1, nI_1, show (7 : Int32) = nI 7 by decide, pk_mul, nI_add, show j - i + 1 = j + 1 - i by omega]
        funext a y
        simp only [zx_u2, zt_tn]
        repeat' split
        all_goals first | rfl | (exfalso; omega)
      · rw [Int32.le_iff_toInt_le, e6] at h5
        rw [hd, decide_eq_false (by omega)] at hq; exact ⟨rfl, hq⟩
  refine sg_116_0 hY ?_
  have := loop 8 i 0 (by omega) (Nat.le_refl _) hi (by simp) hq
  rw [Nat.sub_self] at this
  refine (congrArg (fun J => zx_To l E (d + 1) 116 12 [some (.ref 4), some (.int (nI 0)), none] [] (J, L, Y) (fun r M' => r = none ∧ Qv M')) ?_).mp this
  funext a y
  simp only [zx_u2, zt_tn]
  by_cases q : a = 4 ∧ y = 3
  · rw [if_pos q, q.1, q.2, if_neg (by omega), if_neg (by omega)]; exact hC.1.2.2.symm
  · rw [if_neg q]
    repeat' split
    all_goals first | rfl | (exfalso; omega)
/-- the reference's takes, isLetter, isDigit, letters -/
theorem zy_179 (hY : zx_lay Y) (hT : ∀ j, j < to → T j < 256) (ht : to ≤ 80) (hi : i ≤ to) (hM : zt_M I T to i) {s : Nat} (hs : s < 256) (hq : if zt_s T to i = s then Q 1 (zx_u2 I 132 15 (nI (i + 1)), L, Y) else Q 0 (I, L, Y)) : zx_Ci l E (d + 1) 179 [.ref 132, .int (nI s)] (I, L, Y) Q := by
  obtain ⟨⟨h1, h2⟩, h3⟩ := hM
  unfold zt_s at hq
  have same : ∀ v : Int32, v = 0 → zx_u2 I 132 15 (I 132 15 + v) = I := fun v hv => by rw [hv, Int32.add_zero, zy_u2_same]
  refine sg_179_0 hY _ ⟨fun h => zy_169b (b := false) hY ⟨hY, _, rfl, ?_⟩, fun h => ?_⟩
  · rw [h1, h2, nI_leI (by omega) (by omega)] at h
    rw [if_neg (by rw [if_neg (by omega)]; omega)] at hq
    show Q 0 (zx_u2 I 132 15 (I 132 15 + nI 0), L, Y)
    rw [same (nI 0) rfl]; exact hq
  · rw [h1, h2, nI_leI (by omega) (by omega)] at h
    rw [if_pos (show i < to by omega)] at hq
    have hb := hT i (by omega)
    have e3 : I 140 (I 132 15).toNatClampNeg = nI (T i) := by rw [h2, nI_clamp (by omega)]; exact h3 i (by omega)
    rw [e3]
    refine ⟨by rw [h2]; exact vp_in_nI (by omega) (by omega), fun h5 => zy_169b (b := false) hY ⟨hY, _, rfl, ?_⟩, fun h5 => zy_169b (b := true) hY ⟨hY, _, rfl, ?_⟩⟩
    · rw [nI_eq (by omega) (by omega)] at h5
      rw [if_neg h5] at hq
      show Q 0 (zx_u2 I 132 15 (I 132 15 + nI 0), L, Y)
      rw [same (nI 0) rfl]; exact hq
    · rw [nI_eq (by omega) (by omega)] at h5
      rw [if_pos h5] at hq
      show Q 1 (zx_u2 I 132 15 (I 132 15 + nI 1), L, Y)
      rw [h2, nI_add]; exact hq
theorem zy_180 (hY : zx_lay Y) (hT : ∀ j, j < to → T j < 256) (ht : to ≤ 80) (hi : i ≤ to) (hM : zt_M I T to i) (hq : Q (if zt_let (zt_s T to i) then 1 else 0) (I, L, Y)) : zx_Ci l E (d + 1) 180 [.ref 132] (I, L, Y) Q := by
  obtain ⟨⟨h1, h2⟩, h3⟩ := hM
  unfold zt_s at hq
  refine sg_180_0 hY ⟨fun h => ⟨_, rfl, ?_⟩, fun h => ?_⟩
  · rw [h1, h2, nI_leI (by omega) (by omega)] at h
    rw [if_neg (show ¬ i < to by omega)] at hq; exact hq
  · rw [h1, h2, nI_leI (by omega) (by omega)] at h
    rw [if_pos (show i < to by omega)] at hq
    have hb := hT i (by omega)
    have e3 : I 140 (I 132 15).toNatClampNeg = nI (T i) := by rw [h2, nI_clamp (by omega)]; exact h3 i (by omega)
    rw [e3]
    refine ⟨by rw [h2]; exact vp_in_nI (by omega) (by omega), zy_167i hY (b := zt_let (T i)) ?_ ⟨hY, fun h5 => ⟨_, rfl, ?_⟩, fun h5 => ⟨_, rfl, ?_⟩⟩⟩
    · rw [nI_toInt (by omega)]
      unfold zt_let
      have a1 : (97 : Int64).toInt = 97 := by decide
      have a2 : (102 : Int64).toInt = 102 := by decide
      rw [← Bool.decide_and, decide_eq_decide, a1, a2]; omega
    · rw [zy_b0] at h5; rw [h5] at hq; exact hq
    · rw [zy_b1] at h5; rw [h5] at hq; exact hq
theorem zy_182 (hY : zx_lay Y) (hT : ∀ j, j < to → T j < 256) (ht : to ≤ 80) (hi : i ≤ to) (hM : zt_M I T to i) (hq : Q (if zt_dig (zt_s T to i) then 1 else 0) (I, L, Y)) : zx_Ci l E (d + 1) 182 [.ref 132] (I, L, Y) Q := by
  obtain ⟨⟨h1, h2⟩, h3⟩ := hM
  unfold zt_s at hq
  refine sg_182_0 hY ⟨fun h => ⟨_, rfl, ?_⟩, fun h => ?_⟩
  · rw [h1, h2, nI_leI (by omega) (by omega)] at h
    rw [if_neg (show ¬ i < to by omega)] at hq; exact hq
  · rw [h1, h2, nI_leI (by omega) (by omega)] at h
    rw [if_pos (show i < to by omega)] at hq
    have hb := hT i (by omega)
    have e3 : I 140 (I 132 15).toNatClampNeg = nI (T i) := by rw [h2, nI_clamp (by omega)]; exact h3 i (by omega)
    rw [e3]
    refine ⟨by rw [h2]; exact vp_in_nI (by omega) (by omega), zy_167i hY (b := zt_dig (T i)) ?_ ⟨hY, fun h5 => ⟨_, rfl, ?_⟩, fun h5 => ⟨_, rfl, ?_⟩⟩⟩
    · rw [nI_toInt (by omega)]
      unfold zt_dig
      have a1 : (49 : Int64).toInt = 49 := by decide
      have a2 : (57 : Int64).toInt = 57 := by decide
      rw [← Bool.decide_and, decide_eq_decide, a1, a2]; omega
    · rw [zy_b0] at h5; rw [h5] at hq; exact hq
    · rw [zy_b1] at h5; rw [h5] at hq; exact hq
theorem zt_M_at {j : Nat} (hM : zt_M I T to i) : zt_M (zx_u2 I 132 15 (nI j)) T to j := by
  obtain ⟨⟨h1, h2⟩, h3⟩ := hM
  refine ⟨⟨by rw [zy_u2_nk (by omega)]; exact h1, by rw [zy_u2_self]⟩, fun k hk => by rw [zy_u2_na (by omega)]; exact h3 k hk⟩
theorem zt_M_cong {I' : Nat → Nat → Int32} (ht : to ≤ 80) (hM : zt_M I T to i) (h : ∀ a k, zy_in [(132, 15, 17), (140, 0, 80)] a k → I' a k = I a k) : zt_M I' T to i := by
  obtain ⟨⟨h1, h2⟩, h3⟩ := hM
  refine ⟨⟨?_, ?_⟩, fun j hj => ?_⟩
  · rw [h 132 16 (zy_in_at 0 132 15 17 16 rfl (by omega) (by omega))]; exact h1
  · rw [h 132 15 (zy_in_at 0 132 15 17 15 rfl (by omega) (by omega))]; exact h2
  · rw [h 140 j (zy_in_at 1 140 0 80 j rfl (by omega) (by omega))]; exact h3 j hj
theorem zt_C_cong {I' : Nat → Nat → Int32} (hn : n ≤ 80) (hC : zt_C I T n lim i) (h : ∀ a k, zy_in [(4, 1, 4), (5, 0, 80)] a k → I' a k = I a k) : zt_C I' T n lim i := by
  obtain ⟨⟨h1, h2, h3⟩, h4⟩ := hC
  refine ⟨⟨?_, ?_, ?_⟩, fun j hj => ?_⟩
  · rw [h 4 1 (zy_in_at 0 4 1 4 1 rfl (by omega) (by omega))]; exact h1
  · rw [h 4 2 (zy_in_at 0 4 1 4 2 rfl (by omega) (by omega))]; exact h2
  · rw [h 4 3 (zy_in_at 0 4 1 4 3 rfl (by omega) (by omega))]; exact h3
  · rw [h 5 j (zy_in_at 1 5 0 80 j rfl (by omega) (by omega))]; exact h4 j hj
theorem zt_C_at {j : Nat} (hC : zt_C I T n lim i) : zt_C (zx_u2 I 4 3 (nI j)) T n lim j := by
  obtain ⟨⟨h1, h2, h3⟩, h4⟩ := hC
  exact ⟨⟨by rw [zy_u2_nk (by omega)]; exact h1, by rw [zy_u2_nk (by omega)]; exact h2, by rw [zy_u2_self]⟩, fun k hk => by rw [zy_u2_na (by omega)]; exact h4 k hk⟩
theorem zt_C_tn {j c k : Nat} (hC : zt_C I T n lim i) : zt_C (zt_tn I j c k) T n lim j := by
  obtain ⟨⟨h1, h2, h3⟩, h4⟩ := hC
  refine ⟨⟨?_, ?_, ?_⟩, fun x hx => ?_⟩
  · unfold zt_tn; rw [if_neg (by omega), if_neg (by omega), if_neg (by omega)]; exact h1
  · unfold zt_tn; rw [if_neg (by omega), if_neg (by omega), if_neg (by omega)]; exact h2
  · unfold zt_tn; rw [if_pos ⟨rfl, rfl⟩]
  · unfold zt_tn; rw [if_neg (by omega), if_neg (by omega), if_neg (by omega)]; exact h4 x hx
theorem zy_181 (hY : zx_lay Y) (hT : ∀ j, j < to → T j < 256) (ht : to ≤ 80) (hi : i ≤ to) (hM : zt_M I T to i) (hq : Q (nI (zt_run T to 8 i 0).1) (zx_u2 I 132 15 (nI (zt_run T to 8 i 0).2), L, Y)) : zx_Ci l E (d + 2) 181 [.ref 132] (I, L, Y) Q := by
  have loop : ∀ f j c, f + (j - i) = 8 → i ≤ j → j ≤ to → c < 7 ^ (8 - f) → Q (nI (zt_run T to f j c).1) (zx_u2 I 132 15 (nI (zt_run T to f j c).2), L, Y) → zx_To l E (d + 2) 181 4 [some (.ref 132), some (.int (nI c)), some (.int (nI (j - i)))] [] (zx_u2 I 132 15 (nI j), L, Y) (fun r M' => ∃ v, r = some (.int v) ∧ Q v M') := by
    intro f
    induction f with
    | zero =>
      intro j c hf h1 h2 h3 hq
      exact sg_181_4 hY _ _ ⟨fun _ => ⟨_, rfl, hq⟩, fun h => absurd ((zy_8 (by omega)).mpr (by omega)) h⟩
    | succ f ih =>
      intro j c hf h1 h2 h3 hq
      have hM' := zt_M_at (j := j) hM
      rw [zt_run] at hq
      refine sg_181_4 hY _ _ ⟨fun h => absurd ((zy_8 (by omega)).mp h) (by omega), fun _ => zy_180 hY hT ht h2 hM' ⟨hY, fun h => ⟨_, rfl, ?_⟩, fun h => ?_⟩⟩
      · rw [zy_b0] at h
        rw [if_neg (by rw [h]; decide)] at hq; exact hq
      · rw [zy_b1] at h
        rw [if_pos h] at hq
        obtain ⟨g1, g2, g3⟩ := zt_let_lt h
        have hpow : (7 : Nat) ^ (8 - (f + 1)) ≤ 823543 := Nat.le_trans (Nat.pow_le_pow_right (by omega) (show 8 - (f + 1) ≤ 7 by omega)) (by decide)
        have hc2 : c * 7 + (T j - 96) < 7 ^ (8 - f) := by
          rw [show 8 - f = (8 - (f + 1)) + 1 by omega, Nat.pow_succ]; omega
        have nx := ih (j + 1) (c * 7 + (T j - 96)) (by omega) (by omega) (by omega) hc2 hq
        have e15 : zx_u2 I 132 15 (nI j) 132 15 = nI j := zy_u2_self
        have e140 : zx_u2 I 132 15 (nI j) 140 j = nI (T j) := hM'.2 j g1
        show vp_in (zx_u2 I 132 15 (nI j) 132 15) 80 ∧ zx_To l E (d + 2) 181 4 [some (.ref 132), some (.int (nI c * 7 + zx_u2 I 132 15 (nI j) 140 (zx_u2 I 132 15 (nI j) 132 15).toNatClampNeg - 97 + 1)), some (.int (nI (j - i) + 1))] [] (zx_u2 (zx_u2 I 132 15 (nI j)) 132 15 (zx_u2 I 132 15 (nI j) 132 15 + 1), L, Y) _
        rw [e15, nI_clamp (by omega), e140, nI_1, nI_1, show j - i + 1 = j + 1 - i by omega]
        have ev : nI c * 7 + nI (T j) - 97 + 1 = nI (c * 7 + (T j - 96)) := by
          rw [show (7 : Int32) = nI 7 by decide, pk_mul, nI_add]
          have a1 : nI (c * 7 + T j) - 97 = nI (c * 7 + T j - 97) := pk_sub (b := 97) (by omega)
          rw [a1, nI_1, show c * 7 + T j - 97 + 1 = c * 7 + (T j - 96) by omega]
        have eu : zx_u2 (zx_u2 I 132 15 (nI j)) 132 15 (nI (j + 1)) = zx_u2 I 132 15 (nI (j + 1)) := by
          funext a y
          simp only [zx_u2]
          repeat' split
          all_goals rfl
        rw [ev, eu]
        exact ⟨vp_in_nI (by omega) (by omega), nx⟩
  refine sg_181_0 hY ?_
  have := loop 8 i 0 (by omega) (Nat.le_refl _) hi (by simp) hq
  rw [Nat.sub_self, ← hM.1.2, zy_u2_same] at this
  exact this
/-- faultOf -/
theorem zy_183 (hY : zx_lay Y) (hn : n ≤ 80) (hl : lim ≤ 80) (hto : to = min n lim) (hi : i ≤ to) (h16 : I 132 16 = nI to) (h15 : I 132 15 = nI i) {g : Bool} (hq : Q (if g && decide (i = n) then 0 else (-1) - nI i) (I, L, Y)) : zx_Ci l E d 183 [.ref 132, .int (nI n), .int (nI lim), .int (if g then 1 else 0)] (I, L, Y) Q := by
  have a1 : nI n ≤ nI lim ↔ n ≤ lim := nI_leI (by omega) (by omega)
  have a2 : I 132 15 < nI lim ↔ i < lim := by rw [h15]; exact nI_ltI (by omega) (by omega)
  have a3 : I 132 15 = I 132 16 ↔ i = to := by rw [h15, h16]; exact nI_eq (by omega) (by omega)
  have fz : ∀ {p : Prop}, (¬ (0 : Int32) = 0 → p) := fun h => absurd rfl h
  have f1 : ∀ {p : Prop}, ((1 : Int32) = 0 → p) := fun h => absurd h (by decide)
  refine sg_183_0 hY _ _ _ ?_
  rw [zy_b0, a1, a2, a3, h15]
  refine ⟨fun hg => ?_, fun hg => ?_⟩
  · rw [hg, Bool.false_and] at hq
    refine ⟨fun h => ⟨fun _ => ⟨_, rfl, hq⟩, fz⟩, fun h => ⟨fz, fun _ => ⟨fun h2 => ⟨fun _ => ⟨_, rfl, hq⟩, fz⟩, fun h2 => ⟨_, rfl, ?_⟩⟩⟩⟩
    have : i = lim := by omega
    rw [this] at hq; exact hq
  · have hg' : g = true := by simpa using hg
    rw [hg', Bool.true_and] at hq
    refine ⟨fun h3 => ?_, fun h3 => ?_⟩
    · rw [decide_eq_false (by omega)] at hq
      refine ⟨fun h => ⟨fun _ => ⟨_, rfl, hq⟩, fz⟩, fun h => ⟨fz, fun _ => ⟨fun h2 => ⟨fun _ => ⟨_, rfl, hq⟩, fz⟩, fun h2 => ⟨_, rfl, ?_⟩⟩⟩⟩
      have : i = lim := by omega
      rw [this] at hq; exact hq
    · refine ⟨fun h => ⟨f1, fun _ => ⟨_, rfl, ?_⟩⟩, fun h => ⟨fun _ => ⟨_, rfl, ?_⟩, f1⟩⟩
      · rw [decide_eq_true (by omega)] at hq; exact hq
      · rw [decide_eq_false (by omega)] at hq
        have : i = lim := by omega
        rw [this] at hq; exact hq
end YRd
