/-! ===== a call: callOut of the class, calls of the reference ===== -/
section YK
variable {l : Launch} {E : zx_E} {d : Nat} {I : Nat → Nat → Int32} {L : Nat → Nat → Int64} {Y : zx_Y} {Qo : Option Value → zx_M → Prop} {Q : Int32 → zx_M → Prop} {Qv : zx_M → Prop}
/-- what log leaves -/
def zy_lg0 (I : Nat → Nat → Int32) (r m : Nat) (who letter : Int32) : Nat → Nat → Int32 := fun a k =>
  if a = 8 ∧ k = 5 then nI (if m + 1 ≤ 60 then m + 1 else 60) else if a = 8 ∧ k = 6 then nI (r % 60 + 1) else if a = 13 ∧ k = r % 60 then letter else if a = 12 ∧ k = r % 60 then who else I a k
theorem zy_min60 {m : Nat} (hm : m ≤ 60) : (if (60 : Int32) < nI m + 1 then (60 : Int32) else nI m + 1) = nI (if m + 1 ≤ 60 then m + 1 else 60) := by
  have e : ((60 : Int32) < nI m + 1) ↔ 60 < m + 1 := by rw [nI_1]; exact nI_ltI (a := 60) (by omega) (by omega)
  by_cases h : 60 < m + 1
  · rw [if_pos (e.mpr h), if_neg (by omega)]; rfl
  · rw [if_neg (fun q => h (e.mp q)), if_pos (by omega), nI_1]
theorem zy_c10 (hY : zx_lay Y) {r m : Nat} (hr : r ≤ 60) (hm : m ≤ 60) (h6 : I 8 6 = nI r) (h5 : I 8 5 = nI m) {x y : Int32} (hq : Qv (zy_lg0 I r m x y, L, Y)) : zx_Cv l E (d + 1) 10 [.ref 8, .int x, .int y] (I, L, Y) Qv := by
  refine sg_10_0 hY _ _ ⟨fun h1 => ?_, fun h1 => ⟨fun h2 => ?_, fun h2 => ?_⟩⟩
  · rw [h6] at h1; exact absurd h1 (nI_pos (by omega))
  · have h3 : r < 60 := by rw [h6] at h2; exact (nI_ltI (b := 60) (by omega) (by omega)).mp h2
    rw [h6, h5, zy_min60 hm, nI_clamp (by omega), nI_1]
    refine ⟨vp_in_nI h3 (by omega), vp_in_nI h3 (by omega), rfl, ?_⟩
    have e : zx_u2 (zx_u2 (zx_u2 (zx_u2 I 12 r x) 13 r y) 8 6 (nI (r + 1))) 8 5 (nI (if m + 1 ≤ 60 then m + 1 else 60)) = zy_lg0 I r m x y := by
      funext a k
      unfold zy_lg0 zx_u2
      rw [Nat.mod_eq_of_lt h3]
    rw [e]
    exact hq
  · have h3 : r = 60 := by
      rw [h6] at h2
      have : ¬ r < 60 := fun q => h2 ((nI_ltI (b := 60) (by omega) (by omega)).mpr q)
      omega
    subst h3
    rw [h5, zy_min60 hm]
    refine ⟨rfl, ?_⟩
    have e : zx_u2 (zx_u2 (zx_u2 (zx_u2 (zx_u2 I 8 6 0) 12 0 x) 13 0 y) 8 6 (0 + 1)) 8 5 (nI (if m + 1 ≤ 60 then m + 1 else 60)) = zy_lg0 I 60 m x y := by
      funext a k
      unfold zy_lg0 zx_u2
      have e60 : 60 % 60 = 0 := rfl
      have e01 : (0 : Int32) + 1 = nI (0 + 1) := rfl
      rw [e60, e01]
      by_cases q2 : a = 8 ∧ k = 6
      · rw [if_pos q2, if_pos q2]
      · simp only [if_neg q2]
    rw [e]
    exact hq
/-- names and counts of those in c below i, changed -/
def zy_ch (I : Nat → Nat → Int32) (ra rb c : Nat) (f g : Int32 → Int32) (i : Nat) : Nat → Nat → Int32 := fun a k =>
  if a = ra ∧ k < i ∧ c.testBit k then f (I ra k) else if a = rb ∧ k < i ∧ c.testBit k then g (I rb k) else I a k
theorem zy_ch_0 {ra rb c : Nat} {f g : Int32 → Int32} : zy_ch I ra rb c f g 0 = I := by
  funext a k
  unfold zy_ch
  rw [if_neg (by omega), if_neg (by omega)]
theorem zy_ch_no {ra rb c i : Nat} {f g : Int32 → Int32} (h : c.testBit i = false) : zy_ch I ra rb c f g (i + 1) = zy_ch I ra rb c f g i := by
  funext a k
  unfold zy_ch
  have e : (k < i + 1 ∧ c.testBit k = true) ↔ (k < i ∧ c.testBit k = true) := by
    constructor
    · intro ⟨h1, h2⟩
      refine ⟨?_, h2⟩
      have : k ≠ i := fun q => by rw [q, h] at h2; cases h2
      omega
    · intro ⟨h1, h2⟩; exact ⟨by omega, h2⟩
  simp only [e]
theorem zy_ch_yes {ra rb c i : Nat} {f g : Int32 → Int32} (hab : ra ≠ rb) (h : c.testBit i = true) : zy_ch I ra rb c f g (i + 1) = zx_u2 (zx_u2 (zy_ch I ra rb c f g i) ra i (f (zy_ch I ra rb c f g i ra i))) rb i (g (zy_ch I ra rb c f g i rb i)) := by
  funext a k
  have e1 : zy_ch I ra rb c f g i ra i = I ra i := by unfold zy_ch; rw [if_neg (by omega), if_neg (by omega)]
  have e2 : zy_ch I ra rb c f g i rb i = I rb i := by unfold zy_ch; rw [if_neg (by omega), if_neg (by omega)]
  rw [e1, e2]
  unfold zx_u2
  by_cases q1 : a = rb ∧ k = i
  · obtain ⟨rfl, rfl⟩ := q1
    rw [if_pos ⟨rfl, rfl⟩]
    unfold zy_ch
    rw [if_neg (fun q => hab q.1.symm), if_pos ⟨rfl, by omega, h⟩]
  · rw [if_neg q1]
    by_cases q2 : a = ra ∧ k = i
    · obtain ⟨rfl, rfl⟩ := q2
      rw [if_pos ⟨rfl, rfl⟩]
      unfold zy_ch
      rw [if_pos ⟨rfl, by omega, h⟩]
    · rw [if_neg q2]
      unfold zy_ch
      have e3 : (a = ra ∧ k < i + 1 ∧ c.testBit k = true) ↔ (a = ra ∧ k < i ∧ c.testBit k = true) := by
        constructor
        · intro ⟨h1, h2, h3⟩; exact ⟨h1, by omega, h3⟩
        · intro ⟨h1, h2, h3⟩; exact ⟨h1, by omega, h3⟩
      have e4 : (a = rb ∧ k < i + 1 ∧ c.testBit k = true) ↔ (a = rb ∧ k < i ∧ c.testBit k = true) := by
        constructor
        · intro ⟨h1, h2, h3⟩; exact ⟨h1, by omega, h3⟩
        · intro ⟨h1, h2, h3⟩; exact ⟨h1, by omega, h3⟩
      simp only [e3, e4]
theorem zy_ch_at {ra rb c i : Nat} {f g : Int32 → Int32} {a k : Nat} (h1 : a ≠ ra) (h2 : a ≠ rb) : zy_ch I ra rb c f g i a k = I a k := by
  unfold zy_ch; rw [if_neg (fun q => h1 q.1), if_neg (fun q => h2 q.1)]
/-- what callOut leaves -/
def zy_co (I : Nat → Nat → Int32) (x : Int32) (c r m : Nat) : Nat → Nat → Int32 :=
  zy_lg0 (zx_u2 (zy_ch I 9 10 c (fun v => v / 7) (fun v => v + 1) 10) 8 8 (I 8 8 ^^^ nI c)) r m (nI c) (x - x / 7 * 7)
theorem zy_c9 (hY : zx_lay Y) {r m b c : Nat} (hr : r ≤ 60) (hm : m ≤ 60) (h6 : I 8 6 = nI r) (h5 : I 8 5 = nI m) (hb : b ≤ 10) (h9 : I 8 9 = nI b) {x : Int32} (hc : c = zy_orN (fun p => decide (I 9 p = x)) 10)
    (hq : if b < zy_pop c then Q (-2) (I, L, Y) else if c = 0 then Q 0 (I, L, Y) else Q (nI c) (zy_co I x c r m, L, Y)) : zx_Ci l E (d + 2) 9 [.ref 8, .int x] (I, L, Y) Q := by
  have hlt : c < 1024 := by rw [hc]; exact zy_orN_lt _ 10
  have hp : zy_pop c ≤ 10 := by
    have : ∀ c, c < 1024 → zy_pop c ≤ 10 := by decide +kernel
    exact this c hlt
  refine sg_9_0 hY _ (zy_c5 hY ⟨hY, ?_⟩)
  rw [zy_or_nI _ 10 (by omega), ← hc]
  refine zy_266 hY hlt ⟨hY, fun h1 => ?_, fun h1 => ?_⟩
  · have h2 : zy_pop c ≤ b := by
      have h1' : nI (zy_pop c) ≤ I 8 9 := h1
      rw [h9] at h1'
      exact (nI_leI (by omega) (by omega)).mp h1'
    rw [if_neg (by omega)] at hq
    refine ⟨fun h3 => ⟨_, rfl, ?_⟩, fun h3 => ?_⟩
    · have h4 := (zy_eq0 (by omega)).mp h3
      rw [if_pos h4] at hq
      rw [h4]
      exact hq
    · have h4 : c ≠ 0 := fun q => h3 ((zy_eq0 (by omega)).mpr q)
      rw [if_neg h4] at hq
      have hch := zy_ch_0 (I := I) (ra := 9) (rb := 10) (c := c) (f := fun v => v / 7) (g := fun v => v + 1)
      have goal : zx_To l E (d + 2) 9 26 [some (.ref 8), some (.int x), some (.int (nI c)), some (.int (nI 0))] [] (zy_ch I 9 10 c (fun v => v / 7) (fun v => v + 1) 0, L, Y) (fun r M' => ∃ v, r = some (.int v) ∧ Q v M') := by
        refine zy_down (n := 10) (P := fun i => zx_To l E (d + 2) 9 26 [some (.ref 8), some (.int x), some (.int (nI c)), some (.int (nI i))] [] (zy_ch I 9 10 c (fun v => v / 7) (fun v => v + 1) i, L, Y) _) ?_ (fun i hi ih => ?_)
        · refine sg_9_26 hY _ _ _ ⟨fun _ => ?_, fun h1 => absurd ((zy_10 (by omega)).mpr (Nat.le_refl _)) h1⟩
          rw [zy_ch_at (by omega) (by omega)]
          refine zy_c10 hY hr hm ?_ ?_ ⟨hY, _, rfl, hq⟩
          · rw [zy_u2_nk (by omega), zy_ch_at (by omega) (by omega)]; exact h6
          · rw [zy_u2_nk (by omega), zy_ch_at (by omega) (by omega)]; exact h5
        · refine sg_9_26 hY _ _ _ ⟨fun h1 => absurd ((zy_10 (by omega)).mp h1) (by omega), fun _ => ⟨fun h1 => ?_, fun h1 => ?_⟩⟩
          · rw [zy_test0 (by omega) (by omega)] at h1
            rw [nI_1, ← zy_ch_no h1]
            exact ih
          · have h2 : c.testBit i = true := by
              cases h : c.testBit i
              · exact absurd ((zy_test0 (by omega) (by omega)).mpr h) h1
              · rfl
            rw [nI_1, nI_clamp (by omega)]
            have hv := vp_in_nI (n := i) (N := 10) hi (by omega)
            rw [zy_ch_yes (by omega) h2] at ih
            refine ⟨hv, hv, hv, hv, ?_⟩
            exact ih
      rw [hch] at goal
      exact goal
  · have h2 : ¬ zy_pop c ≤ b := fun q => h1 (by
      show nI (zy_pop c) ≤ I 8 9
      rw [h9]
      exact (nI_leI (by omega) (by omega)).mpr q)
    rw [if_pos (by omega)] at hq
    exact ⟨_, rfl, hq⟩
end YK
