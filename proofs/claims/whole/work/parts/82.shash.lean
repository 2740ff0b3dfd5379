/-! ===== search: a table of slots, any hash ===== -/
/-- slot (h x + k) % M -/
def zq_a (M : Nat) (h : Nat → Nat) (x k : Nat) : Nat := (h x + k) % M
def zq_H (M : Nat) (h : Nat → Nat) (s : Nat → Nat) (T : Nat → Option Nat) (n : Nat) : Prop :=
  n < M ∧ (∀ a i, a < M → T a = some i → i < n) ∧ (∀ a b i, a < M → b < M → T a = some i → T b = some i → a = b) ∧
  ∀ i, i < n → ∃ k, k < M ∧ T (zq_a M h (s i) k) = some i ∧ ∀ k', k' < k → T (zq_a M h (s i) k') ≠ none
section QH
variable {M n : Nat} {h s s' : Nat → Nat} {T T' : Nat → Option Nat}
theorem zq_a_lt (hM : 0 < M) {x k : Nat} : zq_a M h x k < M := Nat.mod_lt _ hM
theorem zq_a_s {x k : Nat} (hM : 0 < M) : (zq_a M h x k + 1) % M = zq_a M h x (k + 1) := by
  unfold zq_a
  rw [Nat.add_mod, Nat.mod_mod, ← Nat.add_mod, Nat.add_assoc]
theorem zq_H_0 (hM : 0 < M) (hT : ∀ a, a < M → T a = none) : zq_H M h s T 0 :=
  ⟨hM, fun a i ha e => (by rw [hT a ha] at e; cases e), fun a b i ha _ e _ => (by rw [hT a ha] at e; cases e), fun i hi => by omega⟩
/-- a slot is free -/
theorem zq_free (H : zq_H M h s T n) : ∃ a, a < M ∧ T a = none := by
  obtain ⟨h1, h2, h3, -⟩ := H
  by_cases q : ∃ a, a < M ∧ T a = none
  · exact q
  · have ne : ∀ a, a < M → ∃ i, T a = some i := fun a ha => by
      cases e : T a with
      | none => exact absurd ⟨a, ha, e⟩ q
      | some i => exact ⟨i, rfl⟩
    have nd : ((List.range M).map (fun a => (T a).getD 0)).Nodup := by
      refine List.pairwise_map.mpr (List.Pairwise.imp_of_mem (R := fun a b => a < b) (fun {a b} ha hb hlt e => ?_) List.pairwise_lt_range)
      obtain ⟨i, ei⟩ := ne a (List.mem_range.mp ha)
      obtain ⟨k, ek⟩ := ne b (List.mem_range.mp hb)
      rw [ei, ek] at e
      have e : i = k := e
      rw [← e] at ek
      have := h3 a b i (List.mem_range.mp ha) (List.mem_range.mp hb) ei ek
      omega
    have sub : ∀ x, x ∈ (List.range M).map (fun a => (T a).getD 0) → x ∈ List.range n := fun x hx => by
      obtain ⟨a, ha, rfl⟩ := List.mem_map.mp hx
      obtain ⟨i, ei⟩ := ne a (List.mem_range.mp ha)
      have := h2 a i (List.mem_range.mp ha) ei
      rw [ei]; exact List.mem_range.mpr this
    have := List.Nodup.length_le_of_subset nd sub
    rw [List.length_map, List.length_range, List.length_range] at this
    omega
theorem zq_free_k (H : zq_H M h s T n) (x : Nat) : ∃ k, k < M ∧ T (zq_a M h x k) = none := by
  obtain ⟨a, ha, e⟩ := zq_free H
  have hM : 0 < M := by omega
  have hr := Nat.mod_lt (h x) hM
  refine ⟨(a + (M - h x % M)) % M, Nat.mod_lt _ hM, ?_⟩
  have : zq_a M h x ((a + (M - h x % M)) % M) = a := by
    unfold zq_a
    rw [Nat.add_mod, Nat.mod_mod, ← Nat.mod_add_mod, Nat.mod_mod]
    rw [Nat.add_mod_mod, Nat.mod_add_mod, Nat.add_mod (h x)]
    by_cases z : h x % M = 0
    · rw [z, Nat.sub_zero, Nat.zero_add, Nat.mod_mod, Nat.add_mod_right, Nat.mod_eq_of_lt ha]
    · rw [Nat.add_mod_mod, show h x % M + (a + (M - h x % M)) = a + M by omega, Nat.add_mod_right, Nat.mod_eq_of_lt ha]
  rw [this]; exact e
/-- the look-up stops -/
def zq_stop (s : Nat → Nat) (T : Nat → Option Nat) (x a : Nat) : Prop := T a = none ∨ ∃ i, T a = some i ∧ s i = x
theorem zq_find (H : zq_H M h s T n) (x : Nat) : ∃ k, k < M ∧ zq_stop s T x (zq_a M h x k) ∧ (∀ k', k' < k → ∃ i, T (zq_a M h x k') = some i ∧ s i ≠ x) := by
  obtain ⟨k, hk, e⟩ := zq_free_k H x
  have key : ∀ m k, k + m < M → (∀ k', k' < k → ∃ i, T (zq_a M h x k') = some i ∧ s i ≠ x) → T (zq_a M h x (k + m)) = none → ∃ k, k < M ∧ zq_stop s T x (zq_a M h x k) ∧ (∀ k', k' < k → ∃ i, T (zq_a M h x k') = some i ∧ s i ≠ x) := by
    intro m
    induction m with
    | zero => exact fun k hk hb hn => ⟨k, hk, Or.inl hn, hb⟩
    | succ m ih =>
      intro k hk hb hn
      cases e : T (zq_a M h x k) with
      | none => exact ⟨k, by omega, Or.inl e, hb⟩
      | some i =>
        by_cases es : s i = x
        · exact ⟨k, by omega, Or.inr ⟨i, e, es⟩, hb⟩
        · refine ih (k + 1) (by omega) (fun k' hk' => ?_) (by rw [show k + 1 + m = k + (m + 1) by omega]; exact hn)
          by_cases z : k' < k
          · exact hb k' z
          · rw [show k' = k by omega]; exact ⟨i, e, es⟩
  exact key k 0 (by omega) (fun k' h => by omega) (by rw [Nat.zero_add]; exact e)
/-- where it stops at a free slot, it isn't there -/
theorem zq_none (H : zq_H M h s T n) {x k : Nat} (hb : ∀ k', k' < k → ∃ i, T (zq_a M h x k') = some i ∧ s i ≠ x) (e : T (zq_a M h x k) = none) : ∀ i, i < n → s i ≠ x := by
  intro i hi es
  obtain ⟨-, -, -, h4⟩ := H
  obtain ⟨m, hm, e1, e2⟩ := h4 i hi
  rw [es] at e1 e2
  by_cases z : m < k
  · obtain ⟨i', e3, e4⟩ := hb m z
    rw [e1] at e3
    cases e3
    exact e4 es
  · by_cases z2 : m = k
    · rw [z2, e] at e1; cases e1
    · exact e2 k (by omega) e
/-- a new one is told at the free slot -/
theorem zq_H_new (H : zq_H M h s T n) {x k : Nat} (hk : k < M) (hn : n + 1 < M) (hb : ∀ k', k' < k → ∃ i, T (zq_a M h x k') = some i ∧ s i ≠ x) (e : T (zq_a M h x k) = none)
    (hs : ∀ i, i < n → s' i = s i) (es : s' n = x) (hT : ∀ a, a < M → a ≠ zq_a M h x k → T' a = T a) (eT : T' (zq_a M h x k) = some n) : zq_H M h s' T' (n + 1) := by
  obtain ⟨h1, h2, h3, h4⟩ := H
  have hM : 0 < M := by omega
  refine ⟨hn, fun a i ha ei => ?_, fun a b i ha hb' ea eb => ?_, fun i hi => ?_⟩
  · by_cases z : a = zq_a M h x k
    · rw [z, eT] at ei; cases ei; omega
    · rw [hT a ha z] at ei
      have := h2 a i ha ei; omega
  · by_cases za : a = zq_a M h x k
    · by_cases zb : b = zq_a M h x k
      · rw [za, zb]
      · rw [za, eT] at ea
        cases ea
        rw [hT b hb' zb] at eb
        have := h2 b _ hb' eb; omega
    · by_cases zb : b = zq_a M h x k
      · rw [zb, eT] at eb
        cases eb
        rw [hT a ha za] at ea
        have := h2 a _ ha ea; omega
      · rw [hT a ha za] at ea
        rw [hT b hb' zb] at eb
        exact h3 a b i ha hb' ea eb
  · by_cases z : i = n
    · subst z
      rw [es]
      refine ⟨k, hk, eT, fun k' hk' q => ?_⟩
      by_cases z : zq_a M h x k' = zq_a M h x k
      · rw [z, eT] at q; cases q
      · rw [hT _ (zq_a_lt hM) z] at q
        obtain ⟨i, e1, -⟩ := hb k' hk'
        rw [e1] at q; cases q
    · obtain ⟨m, m1, m2, m3⟩ := h4 i (by omega)
      rw [hs i (by omega)]
      have keep : ∀ k', T (zq_a M h (s i) k') ≠ none → T' (zq_a M h (s i) k') = T (zq_a M h (s i) k') := fun k' q => by
        by_cases z : zq_a M h (s i) k' = zq_a M h x k
        · rw [z] at q; exact absurd e q
        · exact hT _ (zq_a_lt hM) z
      refine ⟨m, m1, ?_, fun k' hk' => ?_⟩
      · rw [keep m (by rw [m2]; exact fun q => (by cases q))]; exact m2
      · rw [keep k' (m3 k' hk')]; exact m3 k' hk'
end QH
