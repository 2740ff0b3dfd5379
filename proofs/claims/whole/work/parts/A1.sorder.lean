/-! ===== search: the lineup, pure ===== -/
theorem zy_len_mul {c : Nat} (h : c ≠ 0) : ∀ j, zy_len (c * 7 ^ j) = zy_len c + j
  | 0 => by rw [Nat.pow_zero, Nat.mul_one]; rfl
  | j + 1 => by
    have e : c * 7 ^ (j + 1) / 7 = c * 7 ^ j := by rw [Nat.pow_succ, ← Nat.mul_assoc, Nat.mul_div_cancel _ (by omega)]
    have n : c * 7 ^ (j + 1) ≠ 0 := Nat.mul_ne_zero h (Nat.ne_of_gt (Nat.pow_pos (by omega)))
    rw [zy_len_s n, e, zy_len_mul h j]; omega
/-- where a name stands in a dictionary -/
def zs_k (c : Nat) : Nat := c * 7 ^ (8 - zy_len c)
theorem zs_k_lt {c : Nat} (h8 : zy_len c ≤ 8) : zs_k c < 5764801 := by
  by_cases z : c = 0
  · rw [z]; unfold zs_k; rw [Nat.zero_mul]; decide
  · have := zy_len_mul z (8 - zy_len c)
    exact (zy_len_lt 8 _).mp (by unfold zs_k; omega)
theorem zs_k_pf {c l : Nat} (h8 : zy_len c ≤ 8) (hl : l ≤ zy_len c) : zs_k c / 7 ^ (8 - l) = zy_pf c l := by
  unfold zs_k zy_pf
  rw [show 8 - l = (zy_len c - l) + (8 - zy_len c) by omega, Nat.pow_add, Nat.mul_div_mul_right _ _ (Nat.pow_pos (by omega))]
theorem zs_k_mono {a b l : Nat} (ha : zy_len a ≤ 8) (hb : zy_len b ≤ 8) (h : zs_k a ≤ zs_k b) (la : l ≤ zy_len a) (lb : l ≤ zy_len b) : zy_pf a l ≤ zy_pf b l := by
  rw [← zs_k_pf ha la, ← zs_k_pf hb lb]; exact Nat.div_le_div_right h
theorem zs_k_ne {a b : Nat} (b0 : b ≠ 0) (db : zy_dig b = true) (hb : zy_len b ≤ 8) (lt : zy_len a < zy_len b) : zs_k a ≠ zs_k b := by
  intro h
  unfold zs_k at h
  rw [show 8 - zy_len a = (zy_len b - zy_len a) + (8 - zy_len b) by omega, Nat.pow_add, ← Nat.mul_assoc] at h
  have h := Nat.eq_of_mul_eq_mul_right (Nat.pow_pos (by omega)) h
  rw [zy_dig_s b0, Bool.and_eq_true, decide_eq_true_eq] at db
  apply db.1
  rw [← h, show zy_len b - zy_len a = (zy_len b - zy_len a - 1) + 1 by omega, Nat.pow_succ, ← Nat.mul_assoc, Nat.mul_mod_left]
theorem zs_k_inj {a b : Nat} (a0 : a ≠ 0) (b0 : b ≠ 0) (da : zy_dig a = true) (db : zy_dig b = true) (ha : zy_len a ≤ 8) (hb : zy_len b ≤ 8) (h : zs_k a = zs_k b) : a = b := by
  by_cases l1 : zy_len a < zy_len b
  · exact absurd h (zs_k_ne b0 db hb l1)
  · by_cases l2 : zy_len b < zy_len a
    · exact absurd h.symm (zs_k_ne a0 da ha l2)
    · unfold zs_k at h
      rw [show zy_len a = zy_len b by omega] at h
      exact Nat.eq_of_mul_eq_mul_right (Nat.pow_pos (by omega)) h
/-- a name stands before those that begin with it -/
theorem zs_k_pr {a b : Nat} (b0 : b ≠ 0) (db : zy_dig b = true) (hb : zy_len b ≤ 8) (lt : zy_len a < zy_len b) (h : zy_pf b (zy_len a) = a) : zs_k a < zs_k b := by
  have ne := zs_k_ne (a := a) b0 db hb lt
  have le : zs_k a ≤ zs_k b := by
    have e := zs_k_pf hb (show zy_len a ≤ zy_len b by omega)
    rw [h] at e
    have e2 : zs_k a = zs_k b / 7 ^ (8 - zy_len a) * 7 ^ (8 - zy_len a) := by rw [e]; rfl
    rw [e2]
    exact Nat.div_mul_le_self _ _
  omega
/-- the names of ten, P of them people -/
def zs_F (f : Nat → Nat) (P : Nat) : Prop := P ≤ 10 ∧ (∀ p, p < 10 → f p < 5764801 ∧ zy_dig (f p) = true) ∧ ∀ p, P ≤ p → p < 10 → f p = 0
/-- people below m who have a name, in the order of a dictionary -/
def zs_Om (f : Nat → Nat) (m N : Nat) (π : Nat → Nat) : Prop :=
  N ≤ m ∧ (∀ i, i < N → π i < m ∧ f (π i) ≠ 0) ∧ (∀ i k, i < N → k < N → π i = π k → i = k) ∧ (∀ p, p < m → f p ≠ 0 → ∃ i, i < N ∧ π i = p) ∧
  ∀ i k, i < k → k < N → zs_k (f (π i)) ≤ zs_k (f (π k))
section SO
variable {f π : Nat → Nat} {P N m : Nat}
theorem zs_F8 (hF : zs_F f P) {p : Nat} (hp : p < 10) : zy_len (f p) ≤ 8 := zy_len8 (hF.2.1 p hp).1
theorem zs_Om_0 : zs_Om f 0 0 π := ⟨Nat.le_refl _, fun i hi => by omega, fun i k hi => by omega, fun p hp => by omega, fun i k _ hk => by omega⟩
theorem zs_Om_skip (h : zs_Om f m N π) (h0 : f m = 0) : zs_Om f (m + 1) N π :=
  ⟨by have := h.1; omega, fun i hi => ⟨by have := (h.2.1 i hi).1; omega, (h.2.1 i hi).2⟩, h.2.2.1, fun p hp hf => by
    by_cases e : p = m
    · rw [e] at hf; exact absurd h0 hf
    · exact h.2.2.2.1 p (by omega) hf, h.2.2.2.2⟩
def zs_ins (π : Nat → Nat) (m pl : Nat) : Nat → Nat := fun i => if i < pl then π i else if i = pl then m else π (i - 1)
theorem zs_Om_ins (h : zs_Om f m N π) (h0 : f m ≠ 0) {pl : Nat} (hpl : pl ≤ N) (h1 : ∀ i, i < pl → zs_k (f (π i)) ≤ zs_k (f m)) (h2 : ∀ i, pl ≤ i → i < N → zs_k (f m) ≤ zs_k (f (π i))) : zs_Om f (m + 1) (N + 1) (zs_ins π m pl) := by
  obtain ⟨a1, a2, a3, a4, a5⟩ := h
  have lo : ∀ i, i < pl → zs_ins π m pl i = π i := fun i hi => by unfold zs_ins; rw [if_pos hi]
  have mi : zs_ins π m pl pl = m := by unfold zs_ins; rw [if_neg (by omega), if_pos rfl]
  have hi' : ∀ i, pl < i → zs_ins π m pl i = π (i - 1) := fun i hi => by unfold zs_ins; rw [if_neg (by omega), if_neg (by omega)]
  refine ⟨by omega, fun i hi => ?_, fun i k hi hk e => ?_, fun p hp hf => ?_, fun i k hik hk => ?_⟩
  · by_cases l1 : i < pl
    · rw [lo i l1]; exact ⟨by have := (a2 i (by omega)).1; omega, (a2 i (by omega)).2⟩
    · by_cases l2 : i = pl
      · rw [l2, mi]; exact ⟨by omega, h0⟩
      · rw [hi' i (by omega)]; exact ⟨by have := (a2 (i - 1) (by omega)).1; omega, (a2 (i - 1) (by omega)).2⟩
  · have val : ∀ j, j < N + 1 → (j < pl → zs_ins π m pl j = π j ∧ π j < m) ∧ (pl < j → zs_ins π m pl j = π (j - 1) ∧ π (j - 1) < m) := fun j hj =>
      ⟨fun q => ⟨lo j q, (a2 j (by omega)).1⟩, fun q => ⟨hi' j q, (a2 (j - 1) (by omega)).1⟩⟩
    by_cases i1 : i < pl
    · have vi := (val i hi).1 i1
      by_cases k1 : k < pl
      · rw [vi.1, ((val k hk).1 k1).1] at e; exact a3 i k (by omega) (by omega) e
      · by_cases k2 : k = pl
        · rw [vi.1, k2, mi] at e; omega
        · have vk := (val k hk).2 (by omega)
          rw [vi.1, vk.1] at e
          have := a3 i (k - 1) (by omega) (by omega) e; omega
    · by_cases i2 : i = pl
      · by_cases k1 : k < pl
        · have vk := (val k hk).1 k1
          rw [i2, mi, vk.1] at e; omega
        · by_cases k2 : k = pl
          · omega
          · have vk := (val k hk).2 (by omega)
            rw [i2, mi, vk.1] at e; omega
      · have vi := (val i hi).2 (by omega)
        by_cases k1 : k < pl
        · have vk := (val k hk).1 k1
          rw [vi.1, vk.1] at e
          have := a3 (i - 1) k (by omega) (by omega) e; omega
        · by_cases k2 : k = pl
          · rw [vi.1, k2, mi] at e; omega
          · have vk := (val k hk).2 (by omega)
            rw [vi.1, vk.1] at e
            have := a3 (i - 1) (k - 1) (by omega) (by omega) e; omega
  · by_cases e : p = m
    · exact ⟨pl, by omega, by rw [mi, e]⟩
    · obtain ⟨i, i1, i2⟩ := a4 p (by omega) hf
      by_cases l1 : i < pl
      · exact ⟨i, by omega, by rw [lo i l1]; exact i2⟩
      · refine ⟨i + 1, by omega, ?_⟩
        rw [hi' (i + 1) (by omega), Nat.add_sub_cancel]; exact i2
  · by_cases k1 : k < pl
    · rw [lo i (by omega), lo k k1]; exact a5 i k hik (by omega)
    · by_cases k2 : k = pl
      · rw [lo i (by omega), k2, mi]; exact h1 i (by omega)
      · rw [hi' k (by omega)]
        by_cases i1 : i < pl
        · rw [lo i i1]
          by_cases z : i = k - 1
          · rw [z]; exact Nat.le_refl _
          · exact a5 i (k - 1) (by omega) (by omega)
        · by_cases i2 : i = pl
          · rw [i2, mi]; exact h2 (k - 1) (by omega) (by omega)
          · rw [hi' i (by omega)]; exact a5 (i - 1) (k - 1) (by omega) (by omega)
/-- beginnings of one length rise -/
theorem zs_rise (hF : zs_F f P) (hO : zs_Om f 10 N π) {i k l : Nat} (hik : i ≤ k) (hk : k < N) (li : l ≤ zy_len (f (π i))) (lk : l ≤ zy_len (f (π k))) : zy_pf (f (π i)) l ≤ zy_pf (f (π k)) l := by
  by_cases e : i = k
  · rw [e]; exact Nat.le_refl _
  · exact zs_k_mono (zs_F8 hF (hO.2.1 i (by omega)).1) (zs_F8 hF (hO.2.1 k hk).1) (hO.2.2.2.2 i k (by omega) hk) li lk
theorem zs_len1 (hO : zs_Om f 10 N π) {i : Nat} (hi : i < N) : 1 ≤ zy_len (f (π i)) := by
  have : zy_len (f (π i)) ≠ 0 := fun z => (hO.2.1 i hi).2 (zy_len_pos.mp z)
  omega
/-- first letters -/
def zs_1 (f π : Nat → Nat) (i : Nat) : Nat := zy_pf (f (π i)) 1
theorem zs_1_rise (hF : zs_F f P) (hO : zs_Om f 10 N π) {i k : Nat} (hik : i ≤ k) (hk : k < N) : zs_1 f π i ≤ zs_1 f π k :=
  zs_rise hF hO hik hk (zs_len1 hO (by omega)) (zs_len1 hO hk)
theorem zs_1_6 (hO : zs_Om f 10 N π) {i : Nat} (hi : i < N) : 1 ≤ zs_1 f π i ∧ zs_1 f π i ≤ 6 := by
  have h1 := zs_len1 hO hi
  have h2 : zy_len (zs_1 f π i) = 1 := by unfold zs_1; rw [zy_len_pf]; omega
  have h3 := (zy_len_lt 1 (zs_1 f π i)).mp (by omega)
  have h4 : zs_1 f π i ≠ 0 := fun z => by rw [z, zy_len_0] at h2; omega
  omega
/-- groups of places: fr g .. fr (g + 1) - 1 -/
def zs_Gr (f π : Nat → Nat) (N G : Nat) (fr : Nat → Nat) : Prop :=
  G ≤ 6 ∧ fr 0 = 0 ∧ fr G = N ∧ (∀ g, g < G → fr g < fr (g + 1)) ∧ (∀ g i, g < G → fr g ≤ i → i < fr (g + 1) → zs_1 f π i = zs_1 f π (fr g)) ∧ ∀ g, g + 1 < G → zs_1 f π (fr g) < zs_1 f π (fr (g + 1))
theorem zs_Gr_mono {G : Nat} {fr : Nat → Nat} (h : zs_Gr f π N G fr) : ∀ {g k : Nat}, g ≤ k → k ≤ G → fr g ≤ fr k := by
  intro g k
  induction k with
  | zero => intro h1 _; rw [show g = 0 by omega]; exact Nat.le_refl _
  | succ k ih =>
    intro h1 h2
    by_cases e : g = k + 1
    · rw [e]; exact Nat.le_refl _
    · have := ih (by omega) (by omega)
      have := h.2.2.2.1 k (by omega)
      omega
/-- the group of a place -/
def zs_gi (fr : Nat → Nat) (G i : Nat) : Nat := ((List.range G).find? (fun g => decide (i < fr (g + 1)))).getD G
theorem zs_gi_ok {G : Nat} {fr : Nat → Nat} (h : zs_Gr f π N G fr) {i : Nat} (hi : i < N) : zs_gi fr G i < G ∧ fr (zs_gi fr G i) ≤ i ∧ i < fr (zs_gi fr G i + 1) := by
  obtain ⟨h1, h2, h3, h4, h5, h6⟩ := id h
  unfold zs_gi
  cases e : (List.range G).find? (fun g => decide (i < fr (g + 1))) with
  | none =>
    have hall := List.find?_eq_none.mp e
    by_cases G0 : G = 0
    · rw [G0] at h3; omega
    · have := hall (G - 1) (List.mem_range.mpr (by omega))
      rw [show G - 1 + 1 = G by omega, h3] at this
      exact absurd (decide_eq_true hi) this
  | some g =>
    have e1 := List.find?_some e
    have e2 := List.mem_range.mp (List.mem_of_find?_eq_some e)
    rw [decide_eq_true_eq] at e1
    refine ⟨e2, ?_, e1⟩
    show fr g ≤ i
    by_cases g0 : g = 0
    · rw [g0, h2]; omega
    · by_cases z : fr g ≤ i
      · exact z
      · obtain ⟨_, ⟨as, bs, e3, e4⟩⟩ := List.find?_eq_some_iff_append.mp e
        have hm : g - 1 ∈ as := by
          have len : ∀ x, x ∈ List.range G → x < g → x ∈ as := fun x hx hlt => by
            rw [e3] at hx
            rcases List.mem_append.mp hx with q | q
            · exact q
            · rcases List.mem_cons.mp q with q | q
              · omega
              · have pw : (List.range G).Pairwise (· < ·) := List.pairwise_lt_range
                rw [e3] at pw
                have := (List.pairwise_append.mp pw).2.1
                have := (List.pairwise_cons.mp this).1 x q
                omega
          exact len (g - 1) (List.mem_range.mpr (by omega)) (by omega)
        have := e4 (g - 1) hm
        rw [show g - 1 + 1 = g by omega] at this
        rw [Bool.not_eq_true', decide_eq_false_iff_not] at this
        exact absurd (by omega) this
theorem zs_gi_eq {G : Nat} {fr : Nat → Nat} (h : zs_Gr f π N G fr) {i g : Nat} (hg : g < G) (h1 : fr g ≤ i) (h2 : i < fr (g + 1)) : zs_gi fr G i = g := by
  have hN : i < N := by
    have := zs_Gr_mono h (g := g + 1) (k := G) (by omega) (Nat.le_refl _)
    rw [h.2.2.1] at this; omega
  obtain ⟨a, b, c⟩ := zs_gi_ok h hN
  by_cases l1 : zs_gi fr G i < g
  · have := zs_Gr_mono h (g := zs_gi fr G i + 1) (k := g) (by omega) (by omega); omega
  · by_cases l2 : g < zs_gi fr G i
    · have := zs_Gr_mono h (g := g + 1) (k := zs_gi fr G i) (by omega) (by omega); omega
    · omega
theorem zs_gi_1 {G : Nat} {fr : Nat → Nat} (h : zs_Gr f π N G fr) {i k : Nat} (hi : i < N) (hk : k < N) : zs_1 f π i = zs_1 f π k ↔ zs_gi fr G i = zs_gi fr G k := by
  obtain ⟨a1, a2, a3⟩ := zs_gi_ok h hi
  obtain ⟨b1, b2, b3⟩ := zs_gi_ok h hk
  obtain ⟨h1, h2, h3, h4, h5, h6⟩ := id h
  have ei := h5 _ i a1 a2 a3
  have ek := h5 _ k b1 b2 b3
  have lt : ∀ d g, g + d + 1 < G → zs_1 f π (fr g) < zs_1 f π (fr (g + d + 1)) := by
    intro d
    induction d with
    | zero => exact fun g hg => h6 g hg
    | succ d ih =>
      intro g hg
      have := ih g (by omega)
      have := h6 (g + d + 1) (by omega)
      rw [show g + (d + 1) + 1 = g + d + 1 + 1 by omega]
      omega
  constructor
  · intro e
    rw [ei, ek] at e
    by_cases l1 : zs_gi fr G i < zs_gi fr G k
    · have := lt (zs_gi fr G k - zs_gi fr G i - 1) (zs_gi fr G i) (by omega)
      rw [show zs_gi fr G i + (zs_gi fr G k - zs_gi fr G i - 1) + 1 = zs_gi fr G k by omega] at this
      omega
    · by_cases l2 : zs_gi fr G k < zs_gi fr G i
      · have := lt (zs_gi fr G i - zs_gi fr G k - 1) (zs_gi fr G k) (by omega)
        rw [show zs_gi fr G k + (zs_gi fr G i - zs_gi fr G k - 1) + 1 = zs_gi fr G i by omega] at this
        omega
      · omega
  · intro e
    rw [ei, ek, e]
/-- the place of somebody -/
def zs_pl (π : Nat → Nat) (N p : Nat) : Nat := ((List.range N).find? (fun i => decide (π i = p))).getD N
theorem zs_pl_ok (hO : zs_Om f 10 N π) {p : Nat} (hp : p < 10) (h0 : f p ≠ 0) : zs_pl π N p < N ∧ π (zs_pl π N p) = p := by
  obtain ⟨i, i1, i2⟩ := hO.2.2.2.1 p hp h0
  unfold zs_pl
  cases e : (List.range N).find? (fun i => decide (π i = p)) with
  | none =>
    have := List.find?_eq_none.mp e i (List.mem_range.mpr i1)
    exact absurd (decide_eq_true i2) this
  | some k =>
    have e1 := List.find?_some e
    rw [decide_eq_true_eq] at e1
    exact ⟨List.mem_range.mp (List.mem_of_find?_eq_some e), e1⟩
theorem zs_pl_at (hO : zs_Om f 10 N π) {i : Nat} (hi : i < N) : zs_pl π N (π i) = i := by
  obtain ⟨a, b⟩ := zs_pl_ok hO (hO.2.1 i hi).1 (hO.2.1 i hi).2
  exact hO.2.2.1 _ _ a hi b
/-- the group of somebody -/
def zs_g (f π : Nat → Nat) (N : Nat) (fr : Nat → Nat) (G p : Nat) : Nat := if f p = 0 then 10 else zs_gi fr G (zs_pl π N p)
theorem zs_g_at (hO : zs_Om f 10 N π) {G : Nat} {fr : Nat → Nat} {i : Nat} (hi : i < N) : zs_g f π N fr G (π i) = zs_gi fr G i := by
  unfold zs_g
  rw [if_neg (hO.2.1 i hi).2, zs_pl_at hO hi]
theorem zs_zh_G (hF : zs_F f P) (hO : zs_Om f 10 N π) {G : Nat} {fr : Nat → Nat} (h : zs_Gr f π N G fr) : zh_G f P G (zs_g f π N fr G) := by
  have hP := hF.1
  have pl : ∀ p, p < P → f p ≠ 0 → zs_pl π N p < N ∧ π (zs_pl π N p) = p ∧ zs_g f π N fr G p = zs_gi fr G (zs_pl π N p) := fun p hp h0 => by
    obtain ⟨a, b⟩ := zs_pl_ok hO (by omega : p < 10) h0
    exact ⟨a, b, by unfold zs_g; rw [if_neg h0]⟩
  refine ⟨fun p hp h0 => ?_, fun p hp h0 => ?_, fun p q hp hq p0 q0 => ?_⟩
  · obtain ⟨a, b, c⟩ := pl p hp h0
    rw [c]; exact (zs_gi_ok h a).1
  · unfold zs_g
    rw [if_pos h0]
    have := h.1; omega
  · obtain ⟨a1, a2, a3⟩ := pl p hp p0
    obtain ⟨b1, b2, b3⟩ := pl q hq q0
    rw [a3, b3, ← zs_gi_1 h a1 b1]
    unfold zs_1
    rw [a2, b2]
end SO
