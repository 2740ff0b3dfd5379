/-! ===== tree ===== -/
theorem zy_low_all : ((List.range 1024).all fun c => (List.range 10).all fun p => decide (zy_low c = p) == (c.testBit p && (List.range p).all (fun q => !c.testBit q))) = true := by decide +kernel
theorem zy_low_iff {c p : Nat} (hc : c < 1024) (hp : p < 10) : zy_low c = p ↔ c.testBit p = true ∧ ∀ q, q < p → c.testBit q = false := by
  have h := List.all_eq_true.mp (List.all_eq_true.mp zy_low_all c (List.mem_range.mpr hc)) p (List.mem_range.mpr hp)
  have h2 := eq_of_beq h
  constructor
  · intro q
    rw [decide_eq_true q] at h2
    have h3 := Bool.and_eq_true_iff.mp h2.symm
    refine ⟨h3.1, fun z hz => ?_⟩
    have := List.all_eq_true.mp h3.2 z (List.mem_range.mpr hz)
    simpa using this
  · intro q
    have : (c.testBit p && (List.range p).all (fun q => !c.testBit q)) = true := by
      rw [q.1, Bool.true_and]
      refine List.all_eq_true.mpr (fun z hz => ?_)
      rw [q.2 z (List.mem_range.mp hz)]; rfl
    rw [this] at h2
    exact of_decide_eq_true h2
theorem zy_pop_all : ((List.range 1024).all fun c => decide (zy_pop c ≤ 10) && (decide (zy_pop c = 0) == decide (c = 0))) = true := by decide +kernel
theorem zy_pop_le {c : Nat} (hc : c < 1024) : zy_pop c ≤ 10 := by
  have h := List.all_eq_true.mp zy_pop_all c (List.mem_range.mpr hc)
  exact of_decide_eq_true (Bool.and_eq_true_iff.mp h).1
theorem zy_pop_0 {c : Nat} (hc : c < 1024) : zy_pop c = 0 ↔ c = 0 := by
  have h := List.all_eq_true.mp zy_pop_all c (List.mem_range.mpr hc)
  have h2 := eq_of_beq (Bool.and_eq_true_iff.mp h).2
  exact ⟨fun q => of_decide_eq_true (h2 ▸ decide_eq_true q), fun q => of_decide_eq_true (h2.symm ▸ decide_eq_true q)⟩
/-- loops upward and downward over 1 .. n -/
def zy_asc {τ : Type} (s : Nat → τ → τ) : Nat → τ → τ
  | 0, t => t
  | n + 1, t => s (n + 1) (zy_asc s n t)
def zy_desc {τ : Type} (s : Nat → τ → τ) : Nat → τ → τ
  | 0, t => t
  | n + 1, t => zy_desc s n (s (n + 1) t)
theorem zy_rev {τ : Type} {s : Nat → τ → τ} {ok : τ → Prop} (hok : ∀ n t, ok t → ok (s n t)) (hc : ∀ m n t, ok t → s m (s n t) = s n (s m t)) : ∀ n t, ok t → zy_desc s n t = zy_asc s n t := by
  have key : ∀ n x t, ok t → zy_desc s n (s x t) = s x (zy_desc s n t) := by
    intro n
    induction n with
    | zero => intro x t _; rfl
    | succ n ih =>
      intro x t ht
      rw [zy_desc, zy_desc, hc (n + 1) x t ht, ih x _ (hok _ _ ht)]
  intro n
  induction n with
  | zero => intro t _; rfl
  | succ n ih =>
    intro t ht
    rw [zy_desc, key n (n + 1) t ht, ih t ht, zy_asc]
/-- the better of two nodes: (name, how many can have it) -/
def zy_tbc (its can : Nat) (s : Nat × Nat) : Bool := decide (s.2 < can) || (decide (can = s.2) && (decide (zy_len s.1 < zy_len its) || (decide (zy_len its = zy_len s.1) && decide (its < s.1))))
def zy_tb (its can : Nat) (s : Nat × Nat) : Nat × Nat := if zy_tbc its can s then (its, can) else s
def zy_K (s : Nat × Nat) : Nat := s.2 * (9 * 5764801) + zy_len s.1 * 5764801 + (5764800 - s.1)
theorem zy_K_inj {s s' : Nat × Nat} (h : s.1 < 5764801) (h' : s'.1 < 5764801) (hk : zy_K s = zy_K s') : s = s' := by
  have l1 := zy_len8 h
  have l2 := zy_len8 h'
  unfold zy_K at hk
  have e2 : s.2 = s'.2 := by omega
  have e1 : s.1 = s'.1 := by omega
  exact Prod.ext e1 e2
theorem zy_tbc_K {its can : Nat} {s : Nat × Nat} (h : s.1 < 5764801) (hi : its < 5764801) : zy_tbc its can s = decide (zy_K s < zy_K (its, can)) := by
  have l1 := zy_len8 h
  have l2 := zy_len8 hi
  rw [Bool.eq_iff_iff]
  simp only [zy_tbc, Bool.or_eq_true, Bool.and_eq_true, decide_eq_true_eq]
  have ek : ∀ a b : Nat, zy_K (a, b) = b * (9 * 5764801) + zy_len a * 5764801 + (5764800 - a) := fun _ _ => rfl
  rw [show zy_K s = zy_K (s.1, s.2) from rfl, ek, ek]
  constructor
  · rintro (q | ⟨q1, q | ⟨q2, q3⟩⟩) <;> omega
  · intro q
    by_cases a1 : s.2 < can
    · exact Or.inl a1
    · right
      have a2 : can = s.2 := by omega
      refine ⟨a2, ?_⟩
      by_cases a3 : zy_len s.1 < zy_len its
      · exact Or.inl a3
      · right
        have a4 : zy_len its = zy_len s.1 := by omega
        exact ⟨a4, by omega⟩
theorem zy_tb_K {its can : Nat} {s : Nat × Nat} (h : s.1 < 5764801) (hi : its < 5764801) : zy_K (zy_tb its can s) = max (zy_K s) (zy_K (its, can)) := by
  unfold zy_tb
  rw [zy_tbc_K h hi]
  by_cases q : zy_K s < zy_K (its, can)
  · rw [decide_eq_true q, if_pos rfl]; omega
  · rw [decide_eq_false q, if_neg (by decide)]; omega
theorem zy_tb_lt {its can : Nat} {s : Nat × Nat} (h : s.1 < 5764801) (hi : its < 5764801) : (zy_tb its can s).1 < 5764801 := by unfold zy_tb; split <;> assumption
theorem zy_tb_comm {a b x y : Nat} {s : Nat × Nat} (h : s.1 < 5764801) (ha : a < 5764801) (hb : b < 5764801) : zy_tb a x (zy_tb b y s) = zy_tb b y (zy_tb a x s) := by
  refine zy_K_inj (zy_tb_lt (zy_tb_lt h hb) ha) (zy_tb_lt (zy_tb_lt h ha) hb) ?_
  rw [zy_tb_K (zy_tb_lt h hb) ha, zy_tb_K h hb, zy_tb_K (zy_tb_lt h ha) hb, zy_tb_K h ha]
  omega
section YTr0
variable (f : Nat → Nat)
def zy_fst (p n : Nat) : Bool := (List.range p).all fun q => !zy_bg f (zy_pf (f p) n) q
def zy_can (p n : Nat) : Nat := zy_pop (zy_orN (zy_bg f (zy_pf (f p) n)) 10)
def zy_tst (p n : Nat) (t : Nat × Nat × Nat) : Nat × Nat × Nat := if zy_fst f p n then (t.1 + 1, zy_tb (zy_pf (f p) n) (zy_can f p n) t.2) else t
def zy_tre : Nat → Nat × Nat × Nat
  | 0 => (0, 0, 0)
  | p + 1 => zy_asc (zy_tst f p) (zy_len (f p)) (zy_tre p)
end YTr0
def zy_tok (B : Nat) (t : Nat × Nat × Nat) : Prop := t.1 ≤ B ∧ t.2.1 < 5764801 ∧ t.2.2 ≤ 10
theorem zy_orN10 (p : Nat → Bool) {P : Nat} (hP : P ≤ 10) : zy_orN p P < 1024 := Nat.lt_of_lt_of_le (zy_orN_lt p P) (Nat.pow_le_pow_right (by omega) hP)
theorem zy_tst_ok {f : Nat → Nat} {p n B : Nat} {t : Nat × Nat × Nat} (hf : f p < 5764801) (h : zy_tok B t) : zy_tok (B + 1) (zy_tst f p n t) := by
  obtain ⟨h1, h2, h3⟩ := h
  have hp := Nat.lt_of_le_of_lt (zy_pf_le (f p) n) hf
  unfold zy_tst
  split
  · refine ⟨by show t.1 + 1 ≤ B + 1; omega, zy_tb_lt h2 hp, ?_⟩
    show (zy_tb (zy_pf (f p) n) (zy_can f p n) t.2).2 ≤ 10
    unfold zy_tb
    split
    · exact zy_pop_le (zy_orN10 _ (Nat.le_refl _))
    · exact h3
  · exact ⟨by omega, h2, h3⟩
theorem zy_tst_comm {f : Nat → Nat} {p : Nat} (hf : f p < 5764801) (m n : Nat) (t : Nat × Nat × Nat) (h : t.2.1 < 5764801) : zy_tst f p m (zy_tst f p n t) = zy_tst f p n (zy_tst f p m t) := by
  have hm := Nat.lt_of_le_of_lt (zy_pf_le (f p) m) hf
  have hn := Nat.lt_of_le_of_lt (zy_pf_le (f p) n) hf
  unfold zy_tst
  by_cases a : zy_fst f p m = true
  · by_cases b : zy_fst f p n = true
    · simp only [if_pos a, if_pos b, zy_tb_comm h hm hn]
    · simp only [if_pos a, if_neg b]
  · by_cases b : zy_fst f p n = true
    · simp only [if_neg a, if_pos b]
    · simp only [if_neg a, if_neg b]
theorem zy_tst_rev {f : Nat → Nat} {p : Nat} (hf : f p < 5764801) (n : Nat) (t : Nat × Nat × Nat) (h : t.2.1 < 5764801) : zy_desc (zy_tst f p) n t = zy_asc (zy_tst f p) n t :=
  zy_rev (ok := fun t => t.2.1 < 5764801) (fun n t ht => by
    have hp := Nat.lt_of_le_of_lt (zy_pf_le (f p) n) hf
    unfold zy_tst; split
    · exact zy_tb_lt ht hp
    · exact ht) (fun m n t ht => zy_tst_comm hf m n t ht) n t h
theorem zy_asc_ok {f : Nat → Nat} {p B : Nat} (hf : f p < 5764801) {t : Nat × Nat × Nat} (h : zy_tok B t) : ∀ n, zy_tok (B + n) (zy_asc (zy_tst f p) n t)
  | 0 => h
  | n + 1 => zy_tst_ok hf (zy_asc_ok hf h n)
theorem zy_tre_ok {f : Nat → Nat} : ∀ p, (∀ q, q < p → f q < 5764801) → zy_tok (8 * p) (zy_tre f p)
  | 0, _ => ⟨Nat.le_refl _, show 0 < 5764801 by decide, Nat.zero_le _⟩
  | p + 1, h => by
    have := zy_asc_ok (h p (by omega)) (zy_tre_ok p (fun q hq => h q (by omega))) (zy_len (f p))
    have l8 := zy_len8 (h p (by omega))
    rw [zy_tre]
    exact ⟨by have := this.1; omega, this.2⟩
theorem zy_fst_iff {f : Nat → Nat} {p n : Nat} : zy_fst f p n = true ↔ ∀ q, q < p → zy_bg f (zy_pf (f p) n) q = false := by
  unfold zy_fst
  rw [List.all_eq_true]
  constructor
  · intro h q hq; simpa using h q (List.mem_range.mpr hq)
  · intro h q hq; rw [h q (List.mem_range.mp hq)]; rfl
theorem zy_bg_self {f : Nat → Nat} {p n : Nat} (hn : 1 ≤ n) (hl : n ≤ zy_len (f p)) : zy_bg f (zy_pf (f p) n) p = true := by
  have h0 : f p ≠ 0 := fun q => by rw [q, zy_len_0] at hl; omega
  unfold zy_bg zy_st
  rw [decide_eq_true h0, zy_len_pf, show min (zy_len (f p)) n = n by omega, decide_eq_true rfl]; rfl
/-- the lowest of those who can have a node is p, if it is told anew with p -/
theorem zy_low_fst {f : Nat → Nat} {p n : Nat} (hp : p < 10) (hn : 1 ≤ n) (hl : n ≤ zy_len (f p)) : zy_low (zy_orN (zy_bg f (zy_pf (f p) n)) 10) = p ↔ zy_fst f p n = true := by
  rw [zy_low_iff (zy_orN10 _ (Nat.le_refl _)) hp, zy_fst_iff]
  constructor
  · rintro ⟨-, h⟩ q hq
    have := h q hq
    rw [zy_orN_bit, decide_eq_true (show q < 10 by omega), Bool.true_and] at this
    exact this
  · intro h
    refine ⟨?_, fun q hq => ?_⟩
    · rw [zy_orN_bit, decide_eq_true hp, Bool.true_and]; exact zy_bg_self hn hl
    · rw [zy_orN_bit, h q hq, Bool.and_false]
section YTr
variable {l : Launch} {E : zx_E} {d : Nat} {I : Nat → Nat → Int32} {L : Nat → Nat → Int64} {Y : zx_Y} {Qo : Option Value → zx_M → Prop} {Q : Int32 → zx_M → Prop} {Qv : zx_M → Prop}
theorem zy_sub_neg {a b : Nat} (ha : a < 2 ^ 30) (hb : b < 2 ^ 30) : (0 < nI a - nI b ↔ b < a) ∧ (nI a - nI b = 0 ↔ a = b) := by
  have e := pk_sub_toInt (a := a) (b := b) (by omega) (by omega)
  refine ⟨?_, ?_⟩
  · rw [Int32.lt_iff_toInt_lt, zy_i0, e]; omega
  · rw [← Int32.toInt_inj, zy_i0, e]; omega
theorem zy_159 (hY : zx_lay Y) {a b : Nat} (ha : a < 5764801) (hb : b < 5764801) (hq : Q (if decide (zy_len b < zy_len a) || (decide (zy_len a = zy_len b) && decide (a < b)) then 1 else 0) (I, L, Y)) : zx_Ci l E (d + 1) 159 [.int (nI a), .int (nI b)] (I, L, Y) Q := by
  have l1 := zy_len8 ha
  have l2 := zy_len8 hb
  obtain ⟨s1, s2⟩ := zy_sub_neg (a := zy_len a) (b := zy_len b) (by omega) (by omega)
  refine sg_159_0 hY _ _ (zy_161 hY ha ⟨hY, zy_161 hY hb ⟨hY, fun h1 => ⟨_, rfl, ?_⟩, fun h1 => ⟨fun h2 => ⟨_, rfl, ?_⟩, fun h2 => ⟨fun h3 => ⟨_, rfl, ?_⟩, fun h3 => ⟨_, rfl, ?_⟩⟩⟩⟩⟩)
  all_goals rw [s1] at h1
  · rw [decide_eq_true h1, Bool.true_or] at hq; exact hq
  all_goals rw [s2] at h2
  all_goals rw [decide_eq_false h1, Bool.false_or] at hq
  · rw [decide_eq_false h2, Bool.false_and] at hq; exact hq
  all_goals rw [nI_leI (by omega) (by omega)] at h3
  all_goals rw [decide_eq_true h2, Bool.true_and] at hq
  · rw [decide_eq_false (by omega)] at hq; exact hq
  · rw [decide_eq_true (by omega)] at hq; exact hq
theorem zy_135 (hY : zx_lay Y) {P : Nat} (hP : P ≤ 10) (hp : I 8 7 = nI P) {f : Nat → Nat} (hn : ∀ p, p < 10 → I 9 p = nI (f p) ∧ f p < 5764801)
    (hq : Q (nI (zy_tre f P).1) (zy_tell I (if (zy_tre f P).1 = 0 then [] else [nI (zy_tre f P).2.1, nI (zy_tre f P).2.2]), L, Y)) : zx_Ci l E (d + 2) 135 [.ref 3] (I, L, Y) Q := by
  refine sg_135_0 hY ?_
  have tok : ∀ p, p ≤ 10 → zy_tok (8 * p) (zy_tre f p) := fun p hp => zy_tre_ok p (fun q hq => (hn q (by omega)).2)
  refine zy_down (n := P) (P := fun i => zx_To l E (d + 2) 135 9 [some (.ref 3), some (.int (nI (zy_tre f i).1)), some (.int (nI (zy_tre f i).2.1)), some (.int (nI (zy_tre f i).2.2)), some (.int (nI i)), none, none, none, none] [] (I, L, Y) (fun r M' => ∃ v, r = some (.int v) ∧ Q v M')) ?_ (fun i hi ih => ?_)
  · have ht := tok P hP
    generalize zy_tre f P = t at *
    refine sg_135_9 hY _ _ _ _ ⟨fun _ => zy_81 hY ⟨hY, fun h1 => ⟨_, rfl, ?_⟩, fun h1 => ?_⟩, fun h3 => absurd ?_ h3⟩
    · rw [zy_le0 (by have := ht.1; omega)] at h1; rw [if_pos h1] at hq; exact hq
    · rw [zy_le0 (by have := ht.1; omega)] at h1; rw [if_neg h1] at hq
      exact zy_82 hY (by simp) ⟨hY, zy_82 hY (by simp) ⟨hY, _, rfl, hq⟩⟩
    · rw [hp]; exact (nI_leI (by omega) (by omega)).mpr (Nat.le_refl _)
  · obtain ⟨e1, e2⟩ := hn i (by omega)
    have l8 := zy_len8 e2
    refine sg_135_9 hY _ _ _ _ ⟨fun h3 => ?_, fun _ => ⟨vp_in_nI (by omega) (by omega), ?_⟩⟩
    · rw [hp, nI_leI (by omega) (by omega)] at h3; omega
    rw [nI_clamp (by omega), e1]
    have inner : ∀ n t, n ≤ zy_len (f i) → zy_tok (8 * i + (zy_len (f i) - n)) t → zx_To l E (d + 2) 135 9 [some (.ref 3), some (.int (nI (zy_desc (zy_tst f i) n t).1)), some (.int (nI (zy_desc (zy_tst f i) n t).2.1)), some (.int (nI (zy_desc (zy_tst f i) n t).2.2)), some (.int (nI (i + 1))), none, none, none, none] [] (I, L, Y) (fun r M' => ∃ v, r = some (.int v) ∧ Q v M') →
        zx_To l E (d + 2) 135 36 [some (.ref 3), some (.int (nI t.1)), some (.int (nI t.2.1)), some (.int (nI t.2.2)), some (.int (nI i)), some (.int (nI (zy_pf (f i) n))), some (.int (nI (zy_len (f i) - n))), none, none] [] (I, L, Y) (fun r M' => ∃ v, r = some (.int v) ∧ Q v M') := by
      intro n
      induction n with
      | zero =>
        intro t _ hok hk
        have hz : nI (zy_pf (f i) 0) = 0 := by
          have : zy_len (zy_pf (f i) 0) = 0 := by rw [zy_len_pf]; omega
          rw [zy_len_pos.mp this]; rfl
        refine sg_135_36 hY _ _ _ _ _ _ ⟨fun _ => ?_, fun _ => ⟨fun _ => ?_, fun h => absurd hz h⟩⟩
        all_goals rw [nI_1]; exact hk
      | succ n ihn =>
        intro t hle hok hk
        obtain ⟨o1, o2, o3⟩ := hok
        have hb := Nat.lt_of_le_of_lt (zy_pf_le (f i) (n + 1)) e2
        have h0 : zy_pf (f i) (n + 1) ≠ 0 := fun q => by
          have : zy_len (zy_pf (f i) (n + 1)) = 0 := by rw [q, zy_len_0]
          rw [zy_len_pf] at this; omega
        have hd : zy_pf (f i) (n + 1) / 7 = zy_pf (f i) n := by
          unfold zy_pf
          rw [Nat.div_div_eq_div_mul, ← Nat.pow_succ, show zy_len (f i) - n = zy_len (f i) - (n + 1) + 1 by omega]
        have hj : nI (zy_len (f i) - (n + 1)) + 1 = nI (zy_len (f i) - n) := by
          have := nI_add (zy_len (f i) - (n + 1)) 1
          rw [show zy_len (f i) - (n + 1) + 1 = zy_len (f i) - n by omega] at this
          exact this
        have hc : zy_orN (zy_bg f (zy_pf (f i) (n + 1))) 10 < 1024 := zy_orN10 _ (Nat.le_refl _)
        have ok2 : zy_tok (8 * i + (zy_len (f i) - n)) (zy_tst f i (n + 1) t) := by
          have := zy_tst_ok (f := f) (p := i) (n := n + 1) e2 (t := t) ⟨o1, o2, o3⟩
          rw [show 8 * i + (zy_len (f i) - (n + 1)) + 1 = 8 * i + (zy_len (f i) - n) by omega] at this
          exact this
        have step := ihn (zy_tst f i (n + 1) t) (by omega) ok2 hk
        refine sg_135_36 hY _ _ _ _ _ _ ⟨fun h => absurd ((zy_8 (by omega)).mp h) (by omega), fun _ => ⟨fun h => absurd ((zy_eq0 (by omega)).mp h) h0, fun _ => zy_c6 hY hn (by omega) ⟨hY, zy_265 hY hc ⟨hY, ?_⟩⟩⟩⟩
        have lw : zy_low (zy_orN (zy_bg f (zy_pf (f i) (n + 1))) 10) < 2 ^ 31 := by
          have : ∀ c, zy_low c < 2 ^ 31 := fun c => by
            unfold zy_low
            split
            · omega
            · cases h : (List.range 10).find? (fun i => c.testBit i) with
              | none => simp
              | some v => have := List.mem_of_find?_eq_some h; simp at this; simp; omega
          exact this _
        rw [nI_eq lw (by omega), zy_low_fst (by omega) (by omega) hle, zy_d7 (by omega), hd, hj, nI_1]
        refine ⟨fun h1 => ?_, fun h1 => zy_266 hY hc ⟨hY, ?_⟩⟩
        · unfold zy_tst at step
          rw [if_neg h1] at step
          exact step
        · unfold zy_tst at step
          rw [if_pos h1] at step
          unfold zy_tb at step
          have cb := zy_pop_le hc
          rw [nI_ltI (by omega) (by omega), nI_eq (by omega) (by omega)]
          have hcan : zy_can f i (n + 1) = zy_pop (zy_orN (zy_bg f (zy_pf (f i) (n + 1))) 10) := rfl
          rw [← hcan] at *
          refine ⟨fun h2 => ?_, fun h2 => ⟨fun h3 => ?_, fun h3 => zy_159 hY hb o2 ⟨hY, fun h4 => ?_, fun h4 => ?_⟩⟩⟩
          · have : zy_tbc (zy_pf (f i) (n + 1)) (zy_can f i (n + 1)) t.2 = true := by unfold zy_tbc; rw [decide_eq_true h2, Bool.true_or]
            rw [if_pos this] at step; exact step
          · have : zy_tbc (zy_pf (f i) (n + 1)) (zy_can f i (n + 1)) t.2 = false := by unfold zy_tbc; rw [decide_eq_false h2, decide_eq_false h3]; rfl
            rw [if_neg (by rw [this]; decide)] at step; exact step
          · rw [zy_b0] at h4
            have : zy_tbc (zy_pf (f i) (n + 1)) (zy_can f i (n + 1)) t.2 = false := by unfold zy_tbc; rw [decide_eq_false h2, decide_eq_true h3, h4]; rfl
            rw [if_neg (by rw [this]; decide)] at step; exact step
          · rw [zy_b1] at h4
            have : zy_tbc (zy_pf (f i) (n + 1)) (zy_can f i (n + 1)) t.2 = true := by unfold zy_tbc; rw [decide_eq_true h3, h4]; simp
            rw [if_pos this] at step; exact step
    have := inner (zy_len (f i)) (zy_tre f i) (Nat.le_refl _) (by rw [Nat.sub_self]; exact tok i (by omega)) (by rw [zy_tst_rev e2 _ _ (tok i (by omega)).2.1]; exact ih)
    rw [zy_pf_self (Nat.le_refl _), Nat.sub_self] at this
    exact this
/-- the nodes that the reference has listed -/
def zy_an (g : Nat → Int32) (x : Int32) : Nat → Bool
  | 0 => true
  | k + 1 => zy_an g x k && decide (g k ≠ x)
theorem zy_an_iff {g : Nat → Int32} {x : Int32} : ∀ {m : Nat}, zy_an g x m = true ↔ ∀ k, k < m → g k ≠ x
  | 0 => ⟨fun _ k hk => by omega, fun _ => rfl⟩
  | m + 1 => by
    rw [zy_an, Bool.and_eq_true, zy_an_iff, decide_eq_true_eq]
    constructor
    · rintro ⟨h1, h2⟩ k hk
      by_cases e : k = m
      · subst e; exact h2
      · exact h1 k (by omega)
    · intro h
      exact ⟨fun k hk => h k (by omega), h m (by omega)⟩
def zy_bef (p n p' n' : Nat) : Prop := p' < p ∨ (p' = p ∧ n' < n)
def zy_ND (f : Nat → Nat) (g : Nat → Int32) (m p n : Nat) : Prop :=
  (∀ k, k < m → ∃ p' n', zy_bef p n p' n' ∧ 1 ≤ n' ∧ n' ≤ zy_len (f p') ∧ g k = nI (zy_pf (f p') n')) ∧
  (∀ p' n', zy_bef p n p' n' → 1 ≤ n' → n' ≤ zy_len (f p') → ∃ k, k < m ∧ g k = nI (zy_pf (f p') n'))
theorem zy_ND_an {f : Nat → Nat} {g : Nat → Int32} {m p n : Nat} (hf : ∀ q, q ≤ p → f q < 5764801) (h : zy_ND f g m p n) (hn : 1 ≤ n) (hl : n ≤ zy_len (f p)) : zy_an g (nI (zy_pf (f p) n)) m = zy_fst f p n := by
  have hlt : ∀ q k, q ≤ p → zy_pf (f q) k < 2 ^ 31 := fun q k hq => Nat.lt_of_le_of_lt (zy_pf_le _ _) (by have := hf q hq; omega)
  rw [Bool.eq_iff_iff, zy_an_iff, zy_fst_iff]
  constructor
  · intro h1 q hq
    cases hb : zy_bg f (zy_pf (f p) n) q
    · rfl
    · exfalso
      simp only [zy_bg, zy_st, Bool.and_eq_true, decide_eq_true_eq] at hb
      rw [zy_len_pf, show min (zy_len (f p)) n = n by omega] at hb
      have hl2 : n ≤ zy_len (f q) := by
        have := congrArg zy_len hb.2
        rw [zy_len_pf, zy_len_pf] at this; omega
      obtain ⟨k, hk, e⟩ := h.2 q n (Or.inl hq) hn hl2
      exact h1 k hk (by rw [e, hb.2])
  · intro h1 k hk e
    obtain ⟨p', n', hb, a1, a2, e2⟩ := h.1 k hk
    have hp' : p' ≤ p := by rcases hb with hb | hb <;> omega
    rw [e2, nI_eq (hlt p' n' hp') (hlt p n (Nat.le_refl _))] at e
    have e3 := congrArg zy_len e
    rw [zy_len_pf, zy_len_pf] at e3
    have e4 : n' = n := by omega
    subst e4
    have hq : p' < p := by rcases hb with hb | hb <;> omega
    have := h1 p' hq
    rw [← e, zy_bg_self a1 a2] at this
    cases this
def zw_N : List (Nat × Nat × Nat) := [(132, 0, 1), (144, 0, 80)]
theorem zy_218 (hY : zx_lay Y) {P : Nat} (hP : P ≤ 10) (hp : I 132 3 = nI P) {f : Nat → Nat} (hn : ∀ p, p < P → I 134 p = nI (f p) ∧ f p < 5764801) (hz : ∀ p, P ≤ p → p < 10 → f p = 0) (hd : ∀ p, p < P → zy_dig (f p) = true)
    (hq : ∀ J, zy_fr zw_N I J → Q (nI (zy_tre f P).1) (zy_ent J (if (zy_tre f P).1 = 0 then [] else [nI (zy_tre f P).2.1, nI (zy_tre f P).2.2]), L, Y)) : zx_Ci l E (d + 4) 218 [.ref 132] (I, L, Y) Q := by
  have w0 : zy_in zw_N 132 0 := zy_in_at 0 132 0 1 0 rfl (by omega) (by omega)
  have tok : ∀ p, p ≤ P → zy_tok (8 * p) (zy_tre f p) := fun p hp => zy_tre_ok p (fun q hq => (hn q (by omega)).2)
  have outer : ∀ m i J, m + i = P → zy_fr zw_N I J → zy_ND f (J 144) (zy_tre f i).1 i 1 → zx_To l E (d + 4) 218 14 [some (.ref 132), some (.int (nI (zy_tre f i).1)), some (.int (nI (zy_tre f i).2.1)), some (.int (nI (zy_tre f i).2.2)), some (.int (nI i)), none, none, none, none, none, none] [] (J, L, Y) (fun r M' => ∃ v, r = some (.int v) ∧ Q v M') := by
    intro m
    induction m with
    | zero =>
      intro i J hm hJ hN
      have e : i = P := by omega
      subst e
      have ht := tok i (Nat.le_refl _)
      have hq' := hq J hJ
      generalize zy_tre f i = t at *
      have h3 : J 132 3 = nI i := by rw [zy_fr_at hJ 132 3 (by decide)]; exact hp
      refine sg_218_14 hY _ _ _ _ ⟨fun _ => ⟨fun h1 => sg_218_226 hY _ ⟨_, rfl, ?_⟩, fun h1 => ?_⟩, fun h => absurd ?_ h⟩
      · rw [zy_le0 (by have := ht.1; omega)] at h1
        rw [if_pos h1] at hq'
        rw [zy_ent_nil]; exact hq'
      · rw [zy_le0 (by have := ht.1; omega)] at h1
        rw [if_neg h1] at hq'
        rw [zy_ent_nil]
        exact zy_170 hY (by simp) ⟨hY, zy_170 hY (by simp) ⟨hY, sg_218_226 hY _ ⟨_, rfl, hq'⟩⟩⟩
      · rw [h3]; exact (nI_leI (by omega) (by omega)).mpr (Nat.le_refl _)
    | succ m ih =>
      intro i J hm hJ hN
      have h3 : ∀ J, zy_fr zw_N I J → J 132 3 = nI P := fun J hJ => by rw [zy_fr_at hJ 132 3 (by decide)]; exact hp
      have h134 : ∀ J, zy_fr zw_N I J → ∀ p, p < P → J 134 p = nI (f p) ∧ f p < 5764801 := fun J hJ p hp => by rw [zy_fr_row hJ 134 10 (by decide) (by omega)]; exact hn p hp
      have e2 := (hn i (by omega)).2
      have l8 := zy_len8 e2
      refine sg_218_14 hY _ _ _ _ ⟨fun h => ?_, fun _ => ?_⟩
      · rw [h3 J hJ, nI_leI (by omega) (by omega)] at h; omega
      -- over n
      have inner : ∀ k n J, k + n = zy_len (f i) + 1 → 1 ≤ n → zy_fr zw_N I J → zy_ND f (J 144) (zy_asc (zy_tst f i) (n - 1) (zy_tre f i)).1 i n → zx_To l E (d + 4) 218 26 [some (.ref 132), some (.int (nI (zy_asc (zy_tst f i) (n - 1) (zy_tre f i)).1)), some (.int (nI (zy_asc (zy_tst f i) (n - 1) (zy_tre f i)).2.1)), some (.int (nI (zy_asc (zy_tst f i) (n - 1) (zy_tre f i)).2.2)), some (.int (nI i)), some (.int (nI n)), none, none, none, none, none] [] (J, L, Y) (fun r M' => ∃ v, r = some (.int v) ∧ Q v M') := by
        intro k
        induction k with
        | zero =>
          intro n J hk h1 hJ hN
          have en : n = zy_len (f i) + 1 := by omega
          subst en
          rw [Nat.add_sub_cancel] at *
          refine sg_218_26 hY _ _ _ _ _ ⟨vp_in_nI (by omega) (by omega), ?_⟩
          rw [nI_clamp (by omega), (h134 J hJ i (by omega)).1]
          refine zy_171 hY (by omega) ⟨hY, fun _ => ?_, fun h => ?_⟩
          · rw [nI_1]
            refine ih (i + 1) J (by omega) hJ ⟨fun k hk => ?_, fun p' n' hb a1 a2 => ?_⟩
            · obtain ⟨p', n', hb, a1, a2, a3⟩ := hN.1 k hk
              exact ⟨p', n', Or.inl (by rcases hb with hb | hb <;> omega), a1, a2, a3⟩
            · refine hN.2 p' n' ?_ a1 a2
              rcases hb with hb | hb
              · by_cases q : p' = i
                · subst q; exact Or.inr ⟨rfl, by omega⟩
                · exact Or.inl (by omega)
              · omega
          · exact absurd ((nI_ltI (by omega) (by omega)).mpr (Nat.lt_succ_self _)) h
        | succ k ihk =>
          intro n J hk h1 hJ hN
          have hnl : n ≤ zy_len (f i) := by omega
          have hpb := Nat.lt_of_le_of_lt (zy_pf_le (f i) n) e2
          have tk : zy_tok (8 * i + (n - 1)) (zy_asc (zy_tst f i) (n - 1) (zy_tre f i)) := zy_asc_ok e2 (tok i (by omega)) (n - 1)
          have hasc : zy_asc (zy_tst f i) (n + 1 - 1) (zy_tre f i) = zy_tst f i n (zy_asc (zy_tst f i) (n - 1) (zy_tre f i)) := by
            rw [Nat.add_sub_cancel]
            cases n with
            | zero => omega
            | succ n => rfl
          have nxt := ihk (n + 1)
          rw [hasc] at nxt
          generalize zy_asc (zy_tst f i) (n - 1) (zy_tre f i) = t at *
          obtain ⟨o1, o2, o3⟩ := tk
          have han := zy_ND_an (fun q hq => (hn q (by omega)).2) hN h1 hnl
          refine sg_218_26 hY _ _ _ _ _ ⟨vp_in_nI (by omega) (by omega), ?_⟩
          rw [nI_clamp (by omega), (h134 J hJ i (by omega)).1]
          refine zy_171 hY (by omega) ⟨hY, fun h => absurd ((nI_ltI (by omega) (by omega)).mp h) (by omega), fun _ => ⟨vp_in_nI (by omega) (by omega), ?_⟩⟩
          show zx_Ci l E (d + 3) 173 [.int (J 134 i), .int (nI n)] (J, L, Y) _
          rw [(h134 J hJ i (by omega)).1]
          refine zy_173 hY (by omega) (by omega) ⟨hY, ?_⟩
          -- the search
          refine zy_down (n := t.1) (P := fun j => zx_To l E (d + 4) 218 61 [some (.ref 132), some (.int (nI t.1)), some (.int (nI t.2.1)), some (.int (nI t.2.2)), some (.int (nI i)), some (.int (nI n)), some (.int (nI (zy_pf (f i) n))), some (.int (if zy_an (J 144) (nI (zy_pf (f i) n)) j then 1 else 0)), some (.int (nI j)), none, none] [] (J, L, Y) (fun r M' => ∃ v, r = some (.int v) ∧ Q v M')) ?_ (fun j hj ihj => ?_)
          · refine sg_218_61 hY _ _ _ _ _ _ _ _ ⟨fun _ => ?_, fun h => absurd ((nI_leI (by omega) (by omega)).mpr (Nat.le_refl _)) h⟩
            rw [han, zy_b0]
            refine ⟨fun hf' => ⟨vp_in_nI (by omega) (by omega), ?_⟩, fun hf => ?_⟩
            · have hf : zy_fst f i n = true := by simpa using hf'
              have hJ2 : zy_fr zw_N I (zx_u2 J 144 t.1 (nI (zy_pf (f i) n))) := zy_fr_u2 hJ (zy_in_at 1 144 0 80 _ rfl (by omega) (by omega))
              rw [nI_clamp (by omega)]
              have his : zy_is (nI (zy_pf (f i) n)) = true := zy_is_mk hpb (by
                have : ∀ j c, zy_dig c = true → zy_dig (c / 7 ^ j) = true := by
                  intro j
                  induction j with
                  | zero => intro c hc; simpa using hc
                  | succ j ihj => intro c hc; rw [Nat.pow_succ, ← Nat.div_div_eq_div_mul]; exact zy_dig_d (ihj c hc)
                exact this _ _ (hd i (by omega)))
              have cb : zy_orN (zy_bg f (zy_pf (f i) n)) P < 1024 := zy_orN10 _ hP
              refine zy_196 hY hP (h3 _ hJ2) (f := f) (h134 _ hJ2) his (by omega) ⟨hY, zy_266 hY cb ⟨hY, zy_171 hY (by omega) ⟨hY, ?_⟩⟩⟩
              have hcan : zy_pop (zy_orN (zy_bg f (zy_pf (f i) n)) P) = zy_can f i n := by unfold zy_can; rw [zy_bg_P hP hz]
              have cpb : zy_can f i n ≤ 10 := zy_pop_le (zy_orN10 _ (Nat.le_refl _))
              rw [hcan]
              have hJ3 : zy_fr zw_N I (zx_u2 (zx_u2 J 144 t.1 (nI (zy_pf (f i) n))) 132 0 0) := zy_fr_u2 hJ2 w0
              have lt := zy_len8 o2
              have nd : zy_ND f (zx_u2 (zx_u2 J 144 t.1 (nI (zy_pf (f i) n))) 132 0 0 144) (t.1 + 1) i (n + 1) := by
                refine ⟨fun k hk => ?_, fun p' n' hb a1 a2 => ?_⟩
                · rw [zy_u2_na (by omega)]
                  by_cases e : k = t.1
                  · subst e
                    exact ⟨i, n, Or.inr ⟨rfl, by omega⟩, h1, hnl, zy_u2_self⟩
                  · obtain ⟨p', n', hb, a1, a2, a3⟩ := hN.1 k (by omega)
                    rw [zy_u2_nk e]
                    exact ⟨p', n', Or.imp_right (fun z => ⟨z.1, by omega⟩) hb, a1, a2, a3⟩
                · by_cases e : p' = i ∧ n' = n
                  · refine ⟨t.1, by omega, ?_⟩
                    rw [zy_u2_na (by omega), zy_u2_self, e.1, e.2]
                  · obtain ⟨k, hk, a3⟩ := hN.2 p' n' (Or.imp_right (fun z => ⟨z.1, by omega⟩) hb) a1 a2
                    refine ⟨k, by omega, ?_⟩
                    rw [zy_u2_na (by omega), zy_u2_nk (by omega)]; exact a3
              have nx := nxt _ (by omega) (by omega) hJ3 (by unfold zy_tst; rw [if_pos hf]; exact nd)
              unfold zy_tst at nx
              rw [if_pos hf] at nx
              unfold zy_tb at nx
              have yes : zy_tbc (zy_pf (f i) n) (zy_can f i n) t.2 = true → zx_To l E (d + 4) 218 164 [some (.ref 132), some (.int (nI t.1 + 1)), some (.int (nI t.2.1)), some (.int (nI t.2.2)), some (.int (nI i)), some (.int (nI n)), some (.int (nI (zy_pf (f i) n))), none, some (.int (nI (zy_can f i n))), none, none] [] (zx_u2 (zx_u2 J 144 t.1 (nI (zy_pf (f i) n))) 132 0 0, L, Y) (fun r M' => ∃ v, r = some (.int v) ∧ Q v M') := fun q => by
                rw [if_pos q] at nx
                refine sg_218_164 hY _ _ _ _ _ _ _ (sg_218_169 hY _ _ _ _ _ _ _ _ ⟨fun h => absurd h (by decide), fun _ => sg_218_182 hY _ _ _ _ _ _ _ ⟨fun h => absurd h (by decide), fun _ => sg_218_194 hY _ _ _ _ _ (sg_218_195 hY _ _ _ _ _ ?_)⟩⟩)
                rw [nI_1, nI_1]; exact nx
              have no : zy_tbc (zy_pf (f i) n) (zy_can f i n) t.2 = false → zx_To l E (d + 4) 218 168 [some (.ref 132), some (.int (nI t.1 + 1)), some (.int (nI t.2.1)), some (.int (nI t.2.2)), some (.int (nI i)), some (.int (nI n)), some (.int (nI (zy_pf (f i) n))), none, some (.int (nI (zy_can f i n))), none, none] [] (zx_u2 (zx_u2 J 144 t.1 (nI (zy_pf (f i) n))) 132 0 0, L, Y) (fun r M' => ∃ v, r = some (.int v) ∧ Q v M') := fun q => by
                rw [if_neg (by rw [q]; decide)] at nx
                refine sg_218_168 hY _ _ _ _ _ _ _ (sg_218_169 hY _ _ _ _ _ _ _ _ ⟨fun _ => sg_218_182 hY _ _ _ _ _ _ _ ⟨fun _ => sg_218_194 hY _ _ _ _ _ (sg_218_195 hY _ _ _ _ _ ?_), fun h => absurd rfl h⟩, fun h => absurd rfl h⟩)
                rw [nI_1, nI_1]; exact nx
              have hln : zy_len (zy_pf (f i) n) = n := by rw [zy_len_pf]; omega
              obtain ⟨s1, s2⟩ := zy_sub_neg (a := n) (b := zy_len t.2.1) (by omega) (by omega)
              rw [nI_ltI (by omega) (by omega), nI_eq (by omega) (by omega), s1, s2, nI_leI (by omega) (by omega)]
              refine ⟨fun h2 => yes ?_, fun h2 => ⟨fun h3 => no ?_, fun h3 => ⟨fun h4 => yes ?_, fun h4 => ⟨fun h5 => no ?_, fun h5 => ⟨fun h6 => no ?_, fun h6 => yes ?_⟩⟩⟩⟩⟩
              all_goals unfold zy_tbc
              · rw [decide_eq_true h2]; rfl
              · rw [decide_eq_false h2, decide_eq_false h3]; rfl
              · rw [hln, decide_eq_true h3, decide_eq_true h4]; simp
              · rw [hln, decide_eq_false h2, decide_eq_false h4, decide_eq_false h5]; simp
              · rw [hln, decide_eq_false h2, decide_eq_false h4, decide_eq_false (show ¬ zy_pf (f i) n < t.2.1 by omega)]; simp
              · rw [hln, decide_eq_true h3, decide_eq_true h5, decide_eq_true (show zy_pf (f i) n < t.2.1 by omega)]; simp
            · have nx := nxt J (by omega) (by omega) hJ (by
                unfold zy_tst; rw [if_neg (by rw [hf]; decide)]
                refine ⟨fun k hk => ?_, fun p' n' hb a1 a2 => ?_⟩
                · obtain ⟨p', n', hb, a1, a2, a3⟩ := hN.1 k hk
                  exact ⟨p', n', Or.imp_right (fun z => ⟨z.1, by omega⟩) hb, a1, a2, a3⟩
                · by_cases e : p' = i ∧ n' = n
                  · obtain ⟨rfl, rfl⟩ := e
                    have : ¬ zy_an (J 144) (nI (zy_pf (f p') n')) t.1 = true := by rw [han, hf]; decide
                    rw [zy_an_iff] at this
                    simp only [Classical.not_forall, Decidable.not_not] at this
                    obtain ⟨k, hk, e⟩ := this
                    exact ⟨k, hk, e⟩
                  · exact hN.2 p' n' (Or.imp_right (fun z => ⟨z.1, by omega⟩) hb) a1 a2)
              unfold zy_tst at nx
              rw [if_neg (by rw [hf]; decide)] at nx
              refine sg_218_195 hY _ _ _ _ _ ?_
              rw [nI_1]; exact nx
          · have st : zy_an (J 144) (nI (zy_pf (f i) n)) (j + 1) = (zy_an (J 144) (nI (zy_pf (f i) n)) j && decide (J 144 j ≠ nI (zy_pf (f i) n))) := rfl
            rw [st] at ihj
            refine sg_218_61 hY _ _ _ _ _ _ _ _ ⟨fun h => absurd ((nI_leI (by omega) (by omega)).mp h) (by omega), fun _ => ⟨fun h => ?_, fun h => ⟨vp_in_nI (by omega) (by omega), fun h2 => ?_, fun h2 => ?_⟩⟩⟩
            · rw [zy_b0] at h
              rw [h, Bool.false_and] at ihj
              refine sg_218_88 hY _ _ _ _ _ _ _ (sg_218_89 hY _ _ _ _ _ _ _ _ ?_)
              rw [nI_1]; exact ihj
            · rw [nI_clamp (by omega)] at h2
              rw [decide_eq_false (fun q => q h2), Bool.and_false] at ihj
              refine sg_218_88 hY _ _ _ _ _ _ _ (sg_218_89 hY _ _ _ _ _ _ _ _ ?_)
              rw [nI_1]; exact ihj
            · rw [nI_clamp (by omega)] at h2
              rw [zy_b1] at h
              rw [h, decide_eq_true h2] at ihj
              refine sg_218_89 hY _ _ _ _ _ _ _ _ ?_
              rw [nI_1]; exact ihj
      exact inner (zy_len (f i)) 1 J (by omega) (Nat.le_refl _) hJ hN
  refine sg_218_0 hY ?_
  refine outer P 0 (zx_u2 I 132 0 0) (by omega) (zy_fr_u2 (zy_fr_rf _ _) w0) ⟨fun k hk => ?_, fun p' n' hb => ?_⟩
  · exact absurd hk (Nat.not_lt_zero _)
  · rcases hb with hb | hb <;> omega
theorem zj_tree (hY : zx_lay Y) {P S b r : Nat} {H : List (Nat × Nat)} (hC : zc_C I P S b r H)
    (hq : ∀ (v : Int32) (I' : Nat → Nat → Int32) (vs' : List Int32), zc_R I' vs' → zy_fr (zw_N ++ zw_R) I I' → Q v (I', L, Y)) :
    zx_Ci l E (d + 4) 135 [.ref 3] (I, L, Y) (fun v M1 => zx_lay M1.2.2 ∧ zx_Ci l E (d + 4) 218 [.ref 132] M1 (fun w M2 => w = v ∧ Q v M2)) := by
  obtain ⟨f, n1, n2, n3, n4⟩ := zc_nm hC
  obtain ⟨⟨hP, h7, h3⟩, -⟩ := hC
  refine zy_135 hY hP h7 n1 ?_
  refine ⟨hY, zy_218 hY hP (by rw [zy_tell_el (by omega)]; exact h3) (f := f) (fun p hp => by rw [zy_tell_el (by omega)]; exact n2 p hp) n3 (fun p hp => n4 p (by omega)) (fun J hJ => ⟨rfl, ?_⟩)⟩
  have hlen : (if (zy_tre f P).1 = 0 then [] else [nI (zy_tre f P).2.1, nI (zy_tre f P).2.2]).length ≤ 12 := by split <;> simp
  generalize (if (zy_tre f P).1 = 0 then [] else [nI (zy_tre f P).2.1, nI (zy_tre f P).2.2]) = vs at *
  refine hq _ _ vs (zc_R_tell (I := I) hlen (fun a k hk => hJ a k (fun ⟨w, hw, e1, e2, e3⟩ => by
    simp only [zw_N, List.mem_cons, List.not_mem_nil, or_false] at hw
    rcases hw with rfl | rfl <;> simp at e1 <;> omega))) ?_
  · have a1 : zy_fr (zw_N ++ zw_R) I (zy_tell I vs) := zy_fr_mono (zy_tell_fr (zy_fr_rf _ _) hlen) (by decide)
    have a2 : zy_fr (zw_N ++ zw_R) (zy_tell I vs) J := zy_fr_mono hJ (by decide)
    have a3 : zy_fr (zw_N ++ zw_R) J (zy_ent J vs) := zy_fr_mono (zy_ent_fr (zy_fr_rf _ _) hlen) (by decide)
    exact zy_fr_tr (zy_fr_tr a1 a2) a3
end YTr
