/-! ===== search: most, pure ===== -/
theorem zy_cnt_off {p q : Nat → Bool} {w : Nat} : ∀ {n : Nat}, (∀ i, i < n → i ≠ w → p i = q i) → zy_cnt p n ≤ zy_cnt q n + 1 ∧ (w < n → p w = true → q w = false → zy_cnt p n = zy_cnt q n + 1) ∧ (n ≤ w → zy_cnt p n = zy_cnt q n)
  | 0, _ => ⟨Nat.zero_le _, fun h => by omega, fun _ => rfl⟩
  | n + 1, h => by
    obtain ⟨i1, i2, i3⟩ := zy_cnt_off (p := p) (q := q) (w := w) (n := n) (fun i hi => h i (by omega))
    rw [zy_cnt, zy_cnt]
    have b1 : ∀ x : Bool, (if x = true then 1 else 0) ≤ 1 := fun x => by cases x <;> decide
    by_cases e : n = w
    · have e3 := i3 (by omega)
      refine ⟨by have := b1 (p n); omega, fun _ h1 h2 => ?_, fun _ => by omega⟩
      rw [e, h1, h2, if_pos rfl, if_neg (by decide), ← e, e3]
    · rw [h n (by omega) e]
      exact ⟨by omega, fun hw h1 h2 => by have := i2 (by omega) h1 h2; omega, fun hw => by have := i3 (by omega); omega⟩
section MO
variable {f : Nat → Nat} {P t p : Nat}
/-- a name, or a beginning of a name, that somebody has -/
def zm_p (f : Nat → Nat) (P t w : Nat) : Bool := !decide (w = 0) && (List.range P).any (fun p => decide (zy_len w ≤ zg_d t p) && decide (zy_pf (f p) (zy_len w) = w))
theorem zm_p_iff {w : Nat} : zm_p f P t w = true ↔ w ≠ 0 ∧ ∃ p, p < P ∧ zy_len w ≤ zg_d t p ∧ zy_pf (f p) (zy_len w) = w := by
  unfold zm_p
  rw [Bool.and_eq_true, Bool.not_eq_true', decide_eq_false_iff_not, List.any_eq_true]
  constructor
  · rintro ⟨h1, p, h2, h3⟩
    rw [Bool.and_eq_true, decide_eq_true_eq, decide_eq_true_eq] at h3
    exact ⟨h1, p, List.mem_range.mp h2, h3.1, h3.2⟩
  · rintro ⟨h1, p, h2, h3, h4⟩
    exact ⟨h1, p, List.mem_range.mpr h2, by rw [decide_eq_true h3, decide_eq_true h4]; rfl⟩
def zm_F (f : Nat → Nat) (P t : Nat) : Nat := zy_cnt (zm_p f P t) 5764801
theorem zm_off (hS : zg_S f P t) (hp : p < P) (hd : 0 < zg_d t p) : ∀ w, w ≠ zg_n f t p → zm_p f P t w = zm_p f P (zh_to f P t p) w := by
  intro w hw
  refine zb_ext ?_
  rw [zm_p_iff, zm_p_iff]
  unfold zh_to
  constructor
  · rintro ⟨h1, q, h2, h3, h4⟩
    refine ⟨h1, q, h2, ?_, h4⟩
    rw [zg_mv_d h2]
    cases e : zg_m f P t p q with
    | false => rw [zg_bt_0 e]; exact h3
    | true =>
      rw [zg_bt_1 e]
      obtain ⟨-, en⟩ := zg_m_iff.mp e
      by_cases l : zy_len w = zg_d t q
      · exfalso
        apply hw
        rw [← en, ← h4, l]; rfl
      · omega
  · rintro ⟨h1, q, h2, h3, h4⟩
    rw [zg_mv_d h2] at h3
    exact ⟨h1, q, h2, by omega, h4⟩
theorem zm_le (hS : zg_S f P t) (hp : p < P) (hd : 0 < zg_d t p) : zm_F f P t ≤ zm_F f P (zh_to f P t p) + 1 := (zy_cnt_off (w := zg_n f t p) (fun w _ hw => zm_off hS hp hd w hw)).1
theorem zm_lb {b : Nat} (hx : zg_S f P t) : ∀ {k u : Nat}, zh_W f P b (fun _ => true) t k u → zm_F f P t ≤ zm_F f P u + k
  | 0, u, h => by
    have h : u = t := h
    rw [h]; exact Nat.le_add_right _ _
  | k + 1, u, ⟨v, p, h1, h2, e⟩ => by
    have ih := zm_lb hx h1
    have := zm_le (zh_W_S hx h1) h2.1 h2.2.2.1
    rw [← e] at this
    omega
theorem zm_F0 : zm_F f P 0 = 0 := by
  have key : ∀ n, zy_cnt (zm_p f P 0) n = 0 := by
    intro n
    induction n with
    | zero => rfl
    | succ n ih =>
      rw [zy_cnt, ih]
      cases e : zm_p f P 0 n with
      | false => rfl
      | true =>
        exfalso
        obtain ⟨h1, p, -, h3, -⟩ := zm_p_iff.mp e
        have : zg_d 0 p = 0 := by unfold zg_d; rw [Nat.zero_div]
        have : zy_len n ≠ 0 := fun z => h1 (zy_len_pos.mp z)
        omega
  exact key _
theorem zm_ub (hf : ∀ p, p < P → f p < 5764801) : ∀ N t : Nat, zg_sm (zg_d t) P ≤ N → zg_S f P t → ∃ k, k = zm_F f P t ∧ zh_W f P P (fun _ => true) t k 0 := by
  intro N
  induction N using Nat.strongRecOn with
  | _ N ih =>
    intro t hN hS
    by_cases hm : ∃ p, p < P ∧ 0 < zg_d t p
    · obtain ⟨p0, hp0, hm0⟩ := hm
      obtain ⟨p, hp, hmv, hmax⟩ := zh_max (m := fun p => 0 < zg_d t p) (κ := fun p => zg_d t p) hp0 hm0
      have hmax : ∀ r, r < P → zg_d t r ≤ zg_d t p := fun r hr => by
        by_cases z : 0 < zg_d t r
        · exact hmax r hr z
        · omega
      have hE : zh_E f P P (fun _ => true) t p := ⟨hp, rfl, hmv, zy_cnt_le P⟩
      have wl : zg_n f t p < 5764801 := Nat.lt_of_le_of_lt (zy_pf_le _ _) (hf p hp)
      have len := zg_n_len (hS.2 p hp)
      have eF : zm_F f P t = zm_F f P (zh_to f P t p) + 1 := by
        refine (zy_cnt_off (w := zg_n f t p) (fun w _ hw => zm_off hS hp hmv w hw)).2.1 wl (zm_p_iff.mpr ⟨fun z => ?_, p, hp, by omega, by rw [len]; rfl⟩) ?_
        · rw [z, zy_len_0] at len; omega
        · cases e : zm_p f P (zh_to f P t p) (zg_n f t p) with
          | false => rfl
          | true =>
            exfalso
            obtain ⟨-, q, q1, q2, q3⟩ := zm_p_iff.mp e
            unfold zh_to at q2
            rw [zg_mv_d q1, len] at q2
            have := hmax q q1
            cases m : zg_m f P t p q with
            | true => rw [zg_bt_1 m] at q2; omega
            | false =>
              rw [zg_bt_0 m] at q2
              have : zg_m f P t p q = true := zg_m_iff.mpr ⟨q1, by
                rw [len] at q3
                unfold zg_n
                rw [show zg_d t q = zg_d t p by omega]; exact q3⟩
              rw [m] at this; cases this
      have dec : zg_sm (zg_d (zh_to f P t p)) P < zg_sm (zg_d t) P := by
        have le : ∀ i, i < P → zg_d (zh_to f P t p) i ≤ zg_d t i := fun i hi => by unfold zh_to; rw [zg_mv_d hi]; omega
        have h1 := zg_sm_le le
        by_cases z : zg_sm (zg_d t) P ≤ zg_sm (zg_d (zh_to f P t p)) P
        · exfalso
          have := zg_sm_eq le z p hp
          unfold zh_to at this
          rw [zg_mv_d hp, zg_bt_1 (zg_m_self hp)] at this
          omega
        · omega
      obtain ⟨k, k1, k2⟩ := ih (zg_sm (zg_d (zh_to f P t p)) P) (by omega) _ (Nat.le_refl _) (zh_to_S hS)
      refine ⟨k + 1, by omega, ?_⟩
      have := zh_W_add (zh_W_one hE) k2
      rw [Nat.add_comm] at this
      exact this
    · have e : t = 0 := zg_ext hS.1 (Nat.pow_pos (by omega)) (fun q hq => by
        rw [show zg_d 0 q = 0 by unfold zg_d; rw [Nat.zero_div]]
        by_cases z : 0 < zg_d t q
        · exact absurd ⟨q, hq, z⟩ hm
        · omega)
      refine ⟨0, ?_, ?_⟩
      · rw [e, zm_F0]
      · show 0 = t; rw [e]
/-- counted with a map that tells apart -/
theorem zm_img {g : Nat → Nat} {F : Nat → Bool} {M : Nat} : ∀ m, (∀ n, n < m → g n < M) → (∀ i k, i < m → k < m → g i = g k → i = k) → zy_cnt (fun w => (List.range m).any (fun n => F n && decide (g n = w))) M = zy_cnt F m
  | 0, _, _ => by
    have : zy_cnt (fun w => (List.range 0).any (fun n => F n && decide (g n = w))) M = zy_cnt (fun _ => false) M := zy_cnt_cong (fun _ _ => rfl)
    rw [this]
    have z : ∀ k, zy_cnt (fun _ => false) k = 0 := fun k => by
      induction k with
      | zero => rfl
      | succ k ih => rw [zy_cnt, ih]; rfl
    exact z M
  | m + 1, hM, hi => by
    have ih := zm_img (g := g) (F := F) (M := M) m (fun n hn => hM n (by omega)) (fun i k h1 h2 => hi i k (by omega) (by omega))
    rw [zy_cnt, ← ih]
    have st : ∀ w, (List.range (m + 1)).any (fun n => F n && decide (g n = w)) = ((List.range m).any (fun n => F n && decide (g n = w)) || (F m && decide (g m = w))) := fun w => by
      rw [List.range_succ, List.any_append]
      simp
    have off := zy_cnt_off (p := fun w => (List.range (m + 1)).any (fun n => F n && decide (g n = w))) (q := fun w => (List.range m).any (fun n => F n && decide (g n = w))) (w := g m) (n := M) (fun w _ hw => by
      rw [st w, decide_eq_false (fun z => hw z.symm), Bool.and_false, Bool.or_false])
    have notm : (List.range m).any (fun n => F n && decide (g n = g m)) = false := by
      cases e : (List.range m).any (fun n => F n && decide (g n = g m)) with
      | false => rfl
      | true =>
        obtain ⟨n, n1, n2⟩ := List.any_eq_true.mp e
        rw [Bool.and_eq_true, decide_eq_true_eq] at n2
        have n1 := List.mem_range.mp n1
        have := hi n m (by omega) (by omega) n2.2
        omega
    cases e : F m with
    | false =>
      rw [if_neg (by decide), Nat.add_zero]
      refine zy_cnt_cong (fun w _ => ?_)
      rw [st w, e, Bool.false_and, Bool.or_false]
    | true =>
      rw [if_pos rfl]
      refine off.2.1 (hM m (by omega)) ?_ notm
      rw [st (g m), e, decide_eq_true rfl]; simp
theorem zy_cnt_or {p q : Nat → Bool} : ∀ {n : Nat}, (∀ i, i < n → p i = true → q i = false) → zy_cnt (fun i => p i || q i) n = zy_cnt p n + zy_cnt q n
  | 0, _ => rfl
  | n + 1, h => by
    rw [zy_cnt, zy_cnt, zy_cnt, zy_cnt_or (n := n) (fun i hi => h i (by omega))]
    have := h n (by omega)
    cases e : p n with
    | true => rw [this e]; simp; omega
    | false => simp; omega
end MO
