/-! ===== the reference's turns, calls ===== -/
section YM
variable {l : Launch} {E : zx_E} {d : Nat} {I : Nat → Nat → Int32} {L : Nat → Nat → Int64} {Y : zx_Y} {Qo : Option Value → zx_M → Prop} {Q : Int32 → zx_M → Prop} {Qv : zx_M → Prop}
theorem zy_has (hY : zx_lay Y) {c i : Nat} (hc : c < 1024) (hi : i < 10) (hq : Q (if c.testBit i then 1 else 0) (I, L, Y)) : zx_Ci l E d 168 [.int (nI c), .int (nI i)] (I, L, Y) Q := by
  refine zy_168 hY ?_
  have e : decide (((nI c >>> (nI i &&& 31)) &&& (1 : Int32)) = 1) = c.testBit i := by
    rw [Bool.eq_iff_iff, decide_eq_true_iff]
    exact zy_test1 (by omega) (by omega)
  rw [e]
  exact hq
theorem zy_190 (hY : zx_lay Y) {P c : Nat} (hP : P ≤ 10) (hc : c < 1024) (hp : I 132 3 = nI P) {y : Int32} (hq : Qv (zy_ch I 135 136 c (fun v => v + y) (fun v => 1 - v) P, L, Y)) : zx_Cv l E (d + 1) 190 [.ref 132, .int (nI c), .int y] (I, L, Y) Qv := by
  refine sg_190_0 hY _ _ ?_
  have goal : zx_To l E (d + 1) 190 2 [some (.ref 132), some (.int (nI c)), some (.int y), some (.int (nI 0))] [] (zy_ch I 135 136 c (fun v => v + y) (fun v => 1 - v) 0, L, Y) (fun r M' => r = none ∧ Qv M') := by
    refine zy_down (n := P) (P := fun i => zx_To l E (d + 1) 190 2 [some (.ref 132), some (.int (nI c)), some (.int y), some (.int (nI i))] [] (zy_ch I 135 136 c (fun v => v + y) (fun v => 1 - v) i, L, Y) _) ?_ (fun i hi ih => ?_)
    · refine sg_190_2 hY _ _ _ ⟨fun _ => ⟨rfl, hq⟩, fun h1 => absurd ?_ h1⟩
      rw [zy_ch_at (by omega) (by omega), hp]
      exact (nI_leI (by omega) (by omega)).mpr (Nat.le_refl _)
    · refine sg_190_2 hY _ _ _ ⟨fun h1 => ?_, fun _ => ?_⟩
      · rw [zy_ch_at (by omega) (by omega), hp, nI_leI (by omega) (by omega)] at h1; omega
      · refine zy_has hY hc (by omega) ⟨hY, ?_⟩
        cases h : c.testBit i
        · refine ⟨fun _ => ?_, fun h2 => absurd rfl h2⟩
          rw [nI_1, ← zy_ch_no h]
          exact ih
        · refine ⟨fun h2 => absurd h2 (by decide), fun _ => ?_⟩
          have hv := vp_in_nI (n := i) (N := 10) (by omega) (by omega)
          rw [zy_ch_yes (by omega) h] at ih
          rw [nI_1, nI_clamp (by omega)]
          exact ⟨hv, hv, hv, hv, ih⟩
  rw [zy_ch_0] at goal
  exact goal
/-- names of those in c below i set -/
def zy_ns (J : Nat → Nat → Int32) (c : Nat) (v : Int32) (i : Nat) : Nat → Nat → Int32 := fun a k => if a = 134 ∧ k < i ∧ c.testBit k then v else J a k
theorem zy_u2_same {J : Nat → Nat → Int32} {a k : Nat} : zx_u2 J a k (J a k) = J := by
  funext x y
  unfold zx_u2
  split
  · rename_i h; rw [h.1, h.2]
  · rfl
theorem zy_ns_no {J : Nat → Nat → Int32} {c i : Nat} {v : Int32} (h : c.testBit i = false) : zy_ns J c v (i + 1) = zy_ns J c v i := by
  funext a k
  unfold zy_ns
  have e : (k < i + 1 ∧ c.testBit k = true) ↔ (k < i ∧ c.testBit k = true) := by
    constructor
    · intro ⟨h1, h2⟩
      refine ⟨?_, h2⟩
      have : k ≠ i := fun q => by rw [q, h] at h2; cases h2
      omega
    · intro ⟨h1, h2⟩; exact ⟨by omega, h2⟩
  simp only [e]
theorem zy_ns_yes {J : Nat → Nat → Int32} {c i : Nat} {v : Int32} (h : c.testBit i = true) : zy_ns J c v (i + 1) = zx_u2 (zy_ns J c v i) 134 i v := by
  funext a k
  unfold zx_u2 zy_ns
  by_cases q1 : a = 134 ∧ k = i
  · rw [if_pos q1, if_pos ⟨q1.1, by omega, by rw [q1.2]; exact h⟩]
  · rw [if_neg q1]
    have e : (a = 134 ∧ k < i + 1 ∧ c.testBit k = true) ↔ (a = 134 ∧ k < i ∧ c.testBit k = true) := by
      constructor
      · intro ⟨h1, h2, h3⟩; exact ⟨h1, by omega, h3⟩
      · intro ⟨h1, h2, h3⟩; exact ⟨h1, by omega, h3⟩
    simp only [e]
/-- the reference's log moved down by one, below j -/
def zy_sh (J : Nat → Nat → Int32) (j : Nat) : Nat → Nat → Int32 := fun a k => if (a = 138 ∨ a = 139) ∧ k + 1 < j then J a (k + 1) else J a k
theorem zy_sh_1 {J : Nat → Nat → Int32} : zy_sh J 1 = J := by
  funext a k; unfold zy_sh; rw [if_neg (by omega)]
theorem zy_sh_s {J : Nat → Nat → Int32} {j : Nat} (hj : 1 ≤ j) : zy_sh J (j + 1) = zx_u2 (zx_u2 (zy_sh J j) 138 (j - 1) (zy_sh J j 138 j)) 139 (j - 1) (zy_sh J j 139 j) := by
  have e1 : zy_sh J j 138 j = J 138 j := by unfold zy_sh; rw [if_neg (by omega)]
  have e2 : zy_sh J j 139 j = J 139 j := by unfold zy_sh; rw [if_neg (by omega)]
  rw [e1, e2]
  funext a k
  unfold zx_u2
  by_cases q1 : a = 139 ∧ k = j - 1
  · obtain ⟨rfl, rfl⟩ := q1
    rw [if_pos ⟨rfl, rfl⟩]
    unfold zy_sh
    rw [if_pos ⟨Or.inr rfl, by omega⟩, show j - 1 + 1 = j by omega]
  · rw [if_neg q1]
    by_cases q2 : a = 138 ∧ k = j - 1
    · obtain ⟨rfl, rfl⟩ := q2
      rw [if_pos ⟨rfl, rfl⟩]
      unfold zy_sh
      rw [if_pos ⟨Or.inl rfl, by omega⟩, show j - 1 + 1 = j by omega]
    · rw [if_neg q2]
      unfold zy_sh
      have e : ((a = 138 ∨ a = 139) ∧ k + 1 < j + 1) ↔ ((a = 138 ∨ a = 139) ∧ k + 1 < j) := by omega
      simp only [e]
/-- what calls leaves -/
def zy_mc (I : Nat → Nat → Int32) (x : Int32) (c P m : Nat) : Nat → Nat → Int32 := fun a k =>
  if a = 132 ∧ k = 10 then nI (if m + 1 ≤ 60 then m + 1 else 60)
  else if a = 139 ∧ k = (if m = 60 then 59 else m) then nI c
  else if a = 138 ∧ k = (if m = 60 then 59 else m) then x
  else if m = 60 ∧ (a = 138 ∨ a = 139) ∧ k + 1 < 60 then I a (k + 1)
  else zy_ns (zy_ch I 135 136 c (fun v => v + 1) (fun v => 1 - v) P) c (x / 7) P a k
theorem zy_191 (hY : zx_lay Y) {P m b c : Nat} (hP : P ≤ 10) (hp : I 132 3 = nI P) (hm : m ≤ 60) (h10 : I 132 10 = nI m) (hb : b ≤ 10) (h8 : I 132 8 = nI b) {x : Int32} (hc : c = zy_orN (fun p => decide (I 134 p = x)) P)
    (hq : if b < zy_pop c then Q (-2) (I, L, Y) else if c = 0 then Q 0 (I, L, Y) else Q (nI c) (zy_mc I x c P m, L, Y)) : zx_Ci l E (d + 2) 191 [.ref 132, .int x] (I, L, Y) Q := by
  have hlt : c < 1024 := by rw [hc]; exact Nat.lt_of_lt_of_le (zy_orN_lt _ P) (Nat.pow_le_pow_right (by omega) hP)
  have hpop : zy_pop c ≤ 10 := by
    have : ∀ c, c < 1024 → zy_pop c ≤ 10 := by decide +kernel
    exact this c hlt
  refine sg_191_0 hY _ (zy_189 hY hP hp ⟨hY, ?_⟩)
  rw [zy_or_nI _ P (by omega), ← hc]
  refine zy_266 hY hlt ⟨hY, fun h1 => ?_, fun h1 => ?_⟩
  · have h2 : zy_pop c ≤ b := by
      have h1' : nI (zy_pop c) ≤ I 132 8 := h1
      rw [h8] at h1'
      exact (nI_leI (by omega) (by omega)).mp h1'
    rw [if_neg (by omega)] at hq
    refine ⟨fun h3 => ?_, fun h3 => ⟨_, rfl, ?_⟩⟩
    · have h4 : c ≠ 0 := fun q => h3 ((zy_eq0 (by omega)).mpr q)
      rw [if_neg h4] at hq
      refine zy_190 hY hP hlt hp ⟨hY, ?_⟩
      generalize hJ : zy_ch I 135 136 c (fun v => v + 1) (fun v => 1 - v) P = J at hq ⊢
      have hJe : ∀ a k, a ≠ 135 → a ≠ 136 → J a k = I a k := fun a k g1 g2 => by rw [← hJ]; exact zy_ch_at g1 g2
      have goal : zx_To l E (d + 2) 191 34 [some (.ref 132), some (.int x), some (.int (nI c)), some (.int (nI 0))] [] (zy_ns J c (x / 7) 0, L, Y) (fun r M' => ∃ v, r = some (.int v) ∧ Q v M') := by
        refine zy_down (n := P) (P := fun i => zx_To l E (d + 2) 191 34 [some (.ref 132), some (.int x), some (.int (nI c)), some (.int (nI i))] [] (zy_ns J c (x / 7) i, L, Y) _) ?_ (fun i hi ih => ?_)
        · have ns : ∀ k, zy_ns J c (x / 7) P 132 k = I 132 k := fun k => by unfold zy_ns; rw [if_neg (by omega), hJe _ _ (by omega) (by omega)]
          refine sg_191_34 hY _ _ _ ⟨fun _ => ⟨fun h5 => ?_, fun h5 => ?_⟩, fun h1 => absurd ?_ h1⟩
          · rw [ns, h10] at h5
            have h6 : m < 60 := by
              have : m ≠ 60 := fun q => h5 (by rw [q]; rfl)
              omega
            rw [ns, h10, nI_clamp (by omega), nI_1]
            refine ⟨vp_in_nI h6 (by omega), vp_in_nI h6 (by omega), _, rfl, ?_⟩
            have e : zx_u2 (zx_u2 (zx_u2 (zy_ns J c (x / 7) P) 138 m x) 139 m (nI c)) 132 10 (nI (m + 1)) = zy_mc I x c P m := by
              funext a k
              unfold zx_u2 zy_mc
              rw [if_pos (show m + 1 ≤ 60 by omega), if_neg (show ¬ m = 60 by omega), hJ]
              have : ¬ (m = 60 ∧ (a = 138 ∨ a = 139) ∧ k + 1 < 60) := by omega
              rw [if_neg this]
            rw [e]
            exact hq
          · rw [ns, h10] at h5
            have h6 : m = 60 := by
              have := (nI_eq (a := m) (b := 60) (by omega) (by omega)).mp h5
              exact this
            subst h6
            have hs : zx_To l E (d + 2) 191 86 [some (.ref 132), some (.int x), some (.int (nI c)), some (.int (nI (0 + 1)))] [] (zy_sh (zy_ns J c (x / 7) P) (0 + 1), L, Y) (fun r M' => ∃ v, r = some (.int v) ∧ Q v M') := by
              refine zy_down (n := 59) (P := fun i => zx_To l E (d + 2) 191 86 [some (.ref 132), some (.int x), some (.int (nI c)), some (.int (nI (i + 1)))] [] (zy_sh (zy_ns J c (x / 7) P) (i + 1), L, Y) _) ?_ (fun i hi ih => ?_)
              · have e10 : zy_sh (zy_ns J c (x / 7) P) 60 132 10 = nI 60 := by unfold zy_sh; rw [if_neg (by omega), ns]; exact h10
                refine sg_191_86 hY _ _ _ ⟨fun _ => ?_, fun h1 => absurd ((zy_60 (by omega)).mpr (by omega)) h1⟩
                rw [e10]
                have e59 : nI 60 - 1 = nI 59 := rfl
                rw [e59, nI_clamp (by omega), nI_1]
                refine ⟨vp_in_nI (by omega) (by omega), vp_in_nI (by omega) (by omega), _, rfl, ?_⟩
                have e : zx_u2 (zx_u2 (zx_u2 (zx_u2 (zy_sh (zy_ns J c (x / 7) P) 60) 132 10 (nI 59)) 138 59 x) 139 59 (nI c)) 132 10 (nI (59 + 1)) = zy_mc I x c P 60 := by
                  funext a k
                  unfold zx_u2 zy_mc
                  rw [if_neg (show ¬ 60 + 1 ≤ 60 by omega), if_pos (show 60 = 60 from rfl), hJ]
                  by_cases q1 : a = 132 ∧ k = 10
                  · rw [if_pos q1, if_pos q1]
                  · simp only [if_neg q1]
                    by_cases q2 : a = 139 ∧ k = 59
                    · rw [if_pos q2, if_pos q2]
                    · rw [if_neg q2, if_neg q2]
                      by_cases q3 : a = 138 ∧ k = 59
                      · rw [if_pos q3, if_pos q3]
                      · rw [if_neg q3, if_neg q3]
                        unfold zy_sh
                        by_cases q4 : (a = 138 ∨ a = 139) ∧ k + 1 < 60
                        · rw [if_pos q4, if_pos ⟨trivial, q4⟩]
                          unfold zy_ns
                          rw [if_neg (by omega), hJe _ _ (by omega) (by omega)]
                        · rw [if_neg q4, if_neg (fun q => q4 q.2)]
                rw [e]
                exact hq
              · refine sg_191_86 hY _ _ _ ⟨fun h1 => absurd ((zy_60 (by omega)).mp h1) (by omega), fun _ => ?_⟩
                have e1 : nI (i + 1) - 1 = nI i := nI_pred i
                rw [zy_sh_s (by omega)] at ih
                rw [e1, nI_clamp (by omega), nI_clamp (by omega), nI_1]
                have hv1 := vp_in_nI (n := i + 1) (N := 60) (by omega) (by omega)
                have hv0 := vp_in_nI (n := i) (N := 60) (by omega) (by omega)
                exact ⟨hv1, hv0, hv1, hv0, ih⟩
            rw [zy_sh_1] at hs
            exact hs
          · rw [ns, hp]
            exact (nI_leI (by omega) (by omega)).mpr (Nat.le_refl _)
        · refine sg_191_34 hY _ _ _ ⟨fun h1 => ?_, fun _ => ?_⟩
          · have : zy_ns J c (x / 7) i 132 3 = I 132 3 := by unfold zy_ns; rw [if_neg (by omega), hJe _ _ (by omega) (by omega)]
            rw [this, hp, nI_leI (by omega) (by omega)] at h1; omega
          · refine zy_has hY hlt (by omega) ⟨hY, ?_⟩
            have hv := vp_in_nI (n := i) (N := 10) (by omega) (by omega)
            rw [nI_1, nI_clamp (by omega)]
            cases h : c.testBit i
            · refine ⟨fun _ => ⟨hv, hv, ?_⟩, fun h2 => absurd rfl h2⟩
              rw [zy_u2_same, ← zy_ns_no h]
              exact ih
            · refine ⟨fun h2 => absurd h2 (by decide), fun _ => ⟨hv, ?_⟩⟩
              rw [zy_ns_yes h] at ih
              exact ih
      have e0 : zy_ns J c (x / 7) 0 = J := by funext a k; unfold zy_ns; rw [if_neg (by omega)]
      rw [e0] at goal
      exact goal
    · have h4 := (zy_eq0 (by omega)).mp h3
      rw [if_pos h4] at hq
      exact hq
  · have h2 : ¬ zy_pop c ≤ b := fun q => h1 (by
      show nI (zy_pop c) ≤ I 132 8
      rw [h8]
      exact (nI_leI (by omega) (by omega)).mpr q)
    rw [if_pos (by omega)] at hq
    exact ⟨_, rfl, hq⟩
end YM
