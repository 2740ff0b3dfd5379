/-! ===== set, seed, pass, rename ===== -/
theorem zc_new {I I' : Nat → Nat → Int32} {P S S' b r : Nat} {H : List (Nat × Nat)} (h : zc_C I P S b r H) (his : ∀ p, p < 10 → zy_is (I' 9 p) = true) (hn : ∀ p, p < P → I' 134 p = I' 9 p ∧ I' 135 p = I' 10 p ∧ I' 136 p = nI (if S'.testBit p then 1 else 0)) (hz : ∀ p, P ≤ p → p < 10 → I' 9 p = 0 ∧ I' 10 p = 0) (hS : S' < 2 ^ P ∧ I' 8 8 = nI S')
    (h5 : I' 8 5 = 0) (h10 : I' 132 10 = 0) (hf : ∀ a k, zy_in [(8, 6, 8), (8, 9, 10), (132, 3, 4), (132, 8, 9)] a k → I' a k = I a k) : zc_C I' P S' b r [] := by
  obtain ⟨⟨hP, h7, h3⟩, -, -, -, -, ⟨hb1, hb2, hb3, hb4⟩, ⟨hr, h6, -, -, -⟩, -, -⟩ := h
  refine ⟨⟨hP, ?_, ?_⟩, his, hn, hz, hS, ⟨hb1, hb2, ?_, ?_⟩, ⟨hr, ?_, Nat.zero_le _, h5, h10⟩, fun t q hq => by simp at hq, trivial⟩
  · rw [hf 8 7 (zy_in_at 0 8 6 8 7 rfl (by omega) (by omega))]; exact h7
  · rw [hf 132 3 (zy_in_at 2 132 3 4 3 rfl (by omega) (by omega))]; exact h3
  · rw [hf 8 9 (zy_in_at 1 8 9 10 9 rfl (by omega) (by omega))]; exact hb3
  · rw [hf 132 8 (zy_in_at 3 132 8 9 8 rfl (by omega) (by omega))]; exact hb4
  · rw [hf 8 6 (zy_in_at 0 8 6 8 6 rfl (by omega) (by omega))]; exact h6
def zr_P : List (Nat × Nat × Nat) := [(11, 0, 6), (137, 0, 6)]
/-- prices -/
def zc_P (I : Nat → Nat → Int32) : Prop := ∀ j, j < 6 → I 137 j = I 11 j ∧ ∃ v : Nat, 1 ≤ v ∧ v ≤ 9 ∧ I 11 j = nI v
theorem zc_P_cong {I I' : Nat → Nat → Int32} (h : zc_P I) (hf : ∀ a k, zy_in zr_P a k → I' a k = I a k) : zc_P I' := by
  intro j hj
  rw [hf 11 j (zy_in_at 0 11 0 6 j rfl (by omega) hj), hf 137 j (zy_in_at 1 137 0 6 j rfl (by omega) hj)]; exact h j hj
/-- the random number -/
def zc_N (I : Nat → Nat → Int32) : Prop := I 132 9 = I 8 10
def zr_N : List (Nat × Nat × Nat) := [(8, 10, 11), (132, 9, 10)]
theorem zc_N_cong {I I' : Nat → Nat → Int32} (h : zc_N I) (hf : ∀ a k, zy_in zr_N a k → I' a k = I a k) : zc_N I' := by
  unfold zc_N
  rw [hf 8 10 (zy_in_at 0 8 10 11 10 rfl (by omega) (by omega)), hf 132 9 (zy_in_at 1 132 9 10 9 rfl (by omega) (by omega))]; exact h
def zy_thr : List (Nat × Nat × Nat) := [(132, 0, 1)]
theorem zy_thr_fr {I : Nat → Nat → Int32} {v : Int32} : zy_fr zy_thr I (zx_u2 I 132 0 v) := zy_fr_u2 (zy_fr_rf _ _) (zy_in_at 0 132 0 1 0 rfl (by omega) (by omega))
section YE
variable {l : Launch} {E : zx_E} {d : Nat} {I : Nat → Nat → Int32} {L : Nat → Nat → Int64} {Y : zx_Y} {Qo : Option Value → zx_M → Prop} {Q : Int32 → zx_M → Prop} {Qv : zx_M → Prop}
theorem zj_seed (hY : zx_lay Y) (hN : zc_N I) {x : Int32} (hq : ∀ v I', zc_N I' → zy_fr [(8, 10, 11), (132, 0, 1), (132, 9, 10)] I I' → Q v (I', L, Y)) :
    zx_Ci l E d 150 [.ref 3, .int x] (I, L, Y) (fun v M1 => zx_lay M1.2.2 ∧ zx_Ci l E d 257 [.ref 132, .int x] M1 (fun w M2 => w = v ∧ Q v M2)) := by
  refine sg_150_0 hY _ ⟨_, rfl, hY, sg_257_0 hY _ ⟨_, rfl, ?_, hq _ _ ?_ ?_⟩⟩
  · rw [zy_u2_ne (by omega)]; exact hN
  · unfold zc_N; rw [zy_u2_self, zy_u2_ne (by omega), zy_u2_ne (by omega), zy_u2_self]
  · refine zy_fr_u2 (zy_fr_u2 (zy_fr_u2 (zy_fr_rf _ _) ?_) ?_) ?_
    · exact zy_in_at 0 8 10 11 10 rfl (by omega) (by omega)
    · exact zy_in_at 1 132 0 1 0 rfl (by omega) (by omega)
    · exact zy_in_at 2 132 9 10 9 rfl (by omega) (by omega)
def zy_sA (x1 x2 x3 : Int32) : Bool := decide (x1 = 0) && (decide (0 ≤ x2.toInt ∧ x2.toInt ≤ 5) && decide (1 ≤ x3.toInt ∧ x3.toInt ≤ 9))
def zy_sB (x1 x3 : Int32) : Bool := decide (x1 = 1) && decide (1 ≤ x3.toInt ∧ x3.toInt ≤ 10)
theorem zy_123 (hY : zx_lay Y) {x1 x2 x3 : Int32} (hq : if zy_sA x1 x2 x3 then Q (I 11 x2.toNatClampNeg) (zx_u2 I 11 x2.toNatClampNeg x3, L, Y) else if zy_sB x1 x3 then Q (I 8 9) (zx_u2 I 8 9 x3, L, Y) else Q (-1) (I, L, Y)) : zx_Ci l E d 123 [.ref 3, .int x1, .int x2, .int x3] (I, L, Y) Q := by
  have e1 : (1 : Int32).toInt = 1 := by decide
  have e6 : (6 : Int32).toInt = 6 := by decide
  have e9 : (9 : Int32).toInt = 9 := by decide
  have e10 : (10 : Int32).toInt = 10 := by decide
  have tail : zy_sA x1 x2 x3 = false → ((¬ x1 = 1 → ∃ v, some (Value.int (-1)) = some (.int v) ∧ Q v (I, L, Y)) ∧ (x1 = 1 → ((x3 < 1 → ∃ v, some (Value.int (-1)) = some (.int v) ∧ Q v (I, L, Y)) ∧ (¬ x3 < 1 → ((10 < x3 → ∃ v, some (Value.int (-1)) = some (.int v) ∧ Q v (I, L, Y)) ∧ (¬ 10 < x3 → ∃ v, some (Value.int (I 8 9)) = some (.int v) ∧ Q v (zx_u2 I 8 9 x3, L, Y))))))) := by
    intro hA
    rw [hA] at hq
    have hq : if zy_sB x1 x3 then Q (I 8 9) (zx_u2 I 8 9 x3, L, Y) else Q (-1) (I, L, Y) := hq
    have no : zy_sB x1 x3 = false → ∃ v, some (Value.int (-1)) = some (.int v) ∧ Q v (I, L, Y) := fun h => by rw [h] at hq; exact ⟨_, rfl, hq⟩
    refine ⟨fun h => no ?_, fun h => ⟨fun h2 => no ?_, fun h2 => ⟨fun h3 => no ?_, fun h3 => ?_⟩⟩⟩
    · unfold zy_sB; rw [decide_eq_false h]; rfl
    · rw [Int32.lt_iff_toInt_lt, e1] at h2; unfold zy_sB; rw [decide_eq_false (p := 1 ≤ x3.toInt ∧ x3.toInt ≤ 10) (by omega), Bool.and_false]
    · rw [Int32.lt_iff_toInt_lt, e10] at h3; unfold zy_sB; rw [decide_eq_false (p := 1 ≤ x3.toInt ∧ x3.toInt ≤ 10) (by omega), Bool.and_false]
    · rw [Int32.lt_iff_toInt_lt, e1] at h2; rw [Int32.lt_iff_toInt_lt, e10] at h3
      have : zy_sB x1 x3 = true := by unfold zy_sB; rw [decide_eq_true h, decide_eq_true (p := 1 ≤ x3.toInt ∧ x3.toInt ≤ 10) (by omega)]; rfl
      rw [this] at hq; exact ⟨_, rfl, hq⟩
  refine sg_123_0 hY _ _ _ ⟨fun h => tail ?_, fun h => ⟨fun h2 => tail ?_, fun h2 => ⟨fun h3 => tail ?_, fun h3 => ⟨fun h4 => tail ?_, fun h4 => ⟨fun h5 => tail ?_, fun h5 => ?_⟩⟩⟩⟩⟩
  · unfold zy_sA; rw [decide_eq_false h]; rfl
  · rw [Int32.lt_iff_toInt_lt, zy_i0] at h2
    unfold zy_sA; rw [decide_eq_false (p := 0 ≤ x2.toInt ∧ x2.toInt ≤ 5) (by omega), Bool.false_and, Bool.and_false]
  · rw [Int32.le_iff_toInt_le, e6] at h3
    unfold zy_sA; rw [decide_eq_false (p := 0 ≤ x2.toInt ∧ x2.toInt ≤ 5) (by omega), Bool.false_and, Bool.and_false]
  · rw [Int32.lt_iff_toInt_lt, e1] at h4
    unfold zy_sA; rw [decide_eq_false (p := 1 ≤ x3.toInt ∧ x3.toInt ≤ 9) (by omega), Bool.and_false, Bool.and_false]
  · rw [Int32.lt_iff_toInt_lt, e9] at h5
    unfold zy_sA; rw [decide_eq_false (p := 1 ≤ x3.toInt ∧ x3.toInt ≤ 9) (by omega), Bool.and_false, Bool.and_false]
  · rw [Int32.lt_iff_toInt_lt, zy_i0] at h2
    rw [Int32.le_iff_toInt_le, e6] at h3
    rw [Int32.lt_iff_toInt_lt, e1] at h4
    rw [Int32.lt_iff_toInt_lt, e9] at h5
    have : zy_sA x1 x2 x3 = true := by unfold zy_sA; rw [decide_eq_true h, decide_eq_true (p := 0 ≤ x2.toInt ∧ x2.toInt ≤ 5) (by omega), decide_eq_true (p := 1 ≤ x3.toInt ∧ x3.toInt ≤ 9) (by omega)]; rfl
    rw [this] at hq
    have hv : vp_in x2 6 := vp_in_iff.mpr ⟨by omega, by omega⟩
    exact ⟨hv, hv, _, rfl, hq⟩
theorem zy_188 (hY : zx_lay Y) {x1 x2 x3 : Int32} (hq : if zy_sA x1 x2 x3 then Q (I 137 x2.toNatClampNeg) (zx_u2 (zx_u2 I 132 0 0) 137 x2.toNatClampNeg x3, L, Y) else if zy_sB x1 x3 then Q (I 132 8) (zx_u2 (zx_u2 I 132 0 0) 132 8 x3, L, Y) else Q (-1) (zx_u2 I 132 0 0, L, Y)) : zx_Ci l E (d + 1) 188 [.ref 132, .int x1, .int x2, .int x3] (I, L, Y) Q := by
  have tail : zy_sA x1 x2 x3 = false → ((¬ x1 = 1 → ∃ v, some (Value.int (-1)) = some (.int v) ∧ Q v (zx_u2 I 132 0 0, L, Y)) ∧ (x1 = 1 → zx_Ci l E d 167 [.long x3.toInt64, .long 1, .long 10] (zx_u2 I 132 0 0, L, Y) (fun v2 M1 => zx_lay M1.2.2 ∧ (v2 = 0 → ∃ v, some (Value.int (-1)) = some (.int v) ∧ Q v (M1.1, M1.2.1, M1.2.2)) ∧ (¬ v2 = 0 → ∃ v, some (Value.int (M1.1 132 8)) = some (.int v) ∧ Q v (zx_u2 M1.1 132 8 x3, M1.2.1, M1.2.2))))) := by
    intro hA
    rw [hA] at hq
    have hq : if zy_sB x1 x3 then Q (I 132 8) (zx_u2 (zx_u2 I 132 0 0) 132 8 x3, L, Y) else Q (-1) (zx_u2 I 132 0 0, L, Y) := hq
    refine ⟨fun h => ?_, fun h => zy_167i hY (b := decide (1 ≤ x3.toInt ∧ x3.toInt ≤ 10)) rfl ⟨hY, fun h2 => ?_, fun h2 => ?_⟩⟩
    · have : zy_sB x1 x3 = false := by unfold zy_sB; rw [decide_eq_false h]; rfl
      rw [this] at hq; exact ⟨_, rfl, hq⟩
    · rw [zy_b0] at h2
      have : zy_sB x1 x3 = false := by unfold zy_sB; rw [h2, Bool.and_false]
      rw [this] at hq; exact ⟨_, rfl, hq⟩
    · rw [zy_b1] at h2
      have : zy_sB x1 x3 = true := by unfold zy_sB; rw [h2, decide_eq_true h]; rfl
      rw [this] at hq; exact ⟨_, rfl, hq⟩
  refine sg_188_0 hY _ _ _ ⟨fun h => tail ?_, fun h => zy_167i hY (b := decide (0 ≤ x2.toInt ∧ x2.toInt ≤ 5)) rfl ⟨hY, fun h2 => tail ?_, fun h2 => zy_167i hY (b := decide (1 ≤ x3.toInt ∧ x3.toInt ≤ 9)) rfl ⟨hY, fun h3 => tail ?_, fun h3 => ?_⟩⟩⟩
  · unfold zy_sA; rw [decide_eq_false h]; rfl
  · rw [zy_b0] at h2; unfold zy_sA; rw [h2, Bool.false_and, Bool.and_false]
  · rw [zy_b0] at h3; unfold zy_sA; rw [h3, Bool.and_false, Bool.and_false]
  · rw [zy_b1] at h2 h3
    have : zy_sA x1 x2 x3 = true := by unfold zy_sA; rw [decide_eq_true h, h2, h3]; rfl
    rw [this] at hq
    have hx := of_decide_eq_true h2
    have hv : vp_in x2 6 := vp_in_iff.mpr ⟨by omega, by omega⟩
    exact ⟨hv, hv, _, rfl, hq⟩
theorem zj_set (hY : zx_lay Y) {P S b r : Nat} {H : List (Nat × Nat)} (hC : zc_C I P S b r H) (hP : zc_P I) {x1 x2 x3 : Int32}
    (hq : ∀ v I' b', zc_C I' P S b' r H → zc_P I' → zy_fr [(11, 0, 6), (8, 9, 10), (132, 0, 1), (132, 8, 9), (137, 0, 6)] I I' → Q v (I', L, Y)) :
    zx_Ci l E (d + 1) 123 [.ref 3, .int x1, .int x2, .int x3] (I, L, Y) (fun v M1 => zx_lay M1.2.2 ∧ zx_Ci l E (d + 1) 188 [.ref 132, .int x1, .int x2, .int x3] M1 (fun w M2 => w = v ∧ Q v M2)) := by
  refine zy_123 hY ?_
  cases hA : zy_sA x1 x2 x3
  · cases hB : zy_sB x1 x3
    · refine ⟨hY, zy_188 hY ?_⟩
      rw [hA, hB]
      refine ⟨rfl, hq _ _ b (zc_C_cong hC (zy_fr_on zy_thr_fr (by decide))) (zc_P_cong hP (zy_fr_on zy_thr_fr (by decide))) (zy_fr_mono zy_thr_fr (by decide))⟩
    · simp only [zy_sB, Bool.and_eq_true, decide_eq_true_eq] at hB
      obtain ⟨b', hb', rfl⟩ : ∃ b' : Nat, (1 ≤ b' ∧ b' ≤ 10) ∧ x3 = nI b' := ⟨x3.toInt.toNat, by omega, by apply Int32.toInt_inj.mp; rw [nI_toInt (by omega)]; omega⟩
      refine ⟨hY, zy_188 (I := zx_u2 I 8 9 (nI b')) hY ?_⟩
      have hB' : zy_sB x1 (nI b') = true := by unfold zy_sB; rw [decide_eq_true hB.1, decide_eq_true hB.2]; rfl
      rw [hA, hB']
      have fr : zy_fr [(8, 9, 10), (132, 0, 1), (132, 8, 9)] I (zx_u2 (zx_u2 (zx_u2 I 8 9 (nI b')) 132 0 0) 132 8 (nI b')) := by
        refine zy_fr_u2 (zy_fr_u2 (zy_fr_u2 (zy_fr_rf _ _) ?_) ?_) ?_
        · exact zy_in_at 0 8 9 10 9 rfl (by omega) (by omega)
        · exact zy_in_at 1 132 0 1 0 rfl (by omega) (by omega)
        · exact zy_in_at 2 132 8 9 8 rfl (by omega) (by omega)
      refine ⟨?_, hq _ _ b' ?_ (zc_P_cong hP (zy_fr_on fr (by decide))) (zy_fr_mono fr (by decide))⟩
      · show zx_u2 I 8 9 (nI b') 132 8 = I 8 9
        rw [zy_u2_ne (by omega), hC.2.2.2.2.2.1.2.2.1, hC.2.2.2.2.2.1.2.2.2]
      · obtain ⟨⟨hP, h7, h3⟩, his, hn, hz, ⟨hS, h8⟩, ⟨hb1, hb2, hb3, hb4⟩, ⟨hr, h6, hl, h5, h10⟩, hlog, hch⟩ := hC
        refine ⟨⟨hP, h7, h3⟩, his, hn, hz, ⟨hS, h8⟩, ⟨hb'.1, hb'.2, ?_, ?_⟩, ⟨hr, h6, hl, h5, h10⟩, hlog, hch⟩
        · rw [zy_u2_ne (by omega), zy_u2_ne (by omega), zy_u2_self]
        · rw [zy_u2_self]
  · have hA' := hA
    simp only [zy_sA, Bool.and_eq_true, decide_eq_true_eq] at hA
    obtain ⟨v', hv', rfl⟩ : ∃ b' : Nat, (1 ≤ b' ∧ b' ≤ 9) ∧ x3 = nI b' := ⟨x3.toInt.toNat, by omega, by apply Int32.toInt_inj.mp; rw [nI_toInt (by omega)]; omega⟩
    obtain ⟨i, hi, rfl⟩ : ∃ i : Nat, i < 6 ∧ x2 = nI i := ⟨x2.toInt.toNat, by omega, by apply Int32.toInt_inj.mp; rw [nI_toInt (by omega)]; omega⟩
    rw [nI_clamp (by omega)]
    refine ⟨hY, zy_188 (I := zx_u2 I 11 i (nI v')) hY ?_⟩
    rw [hA', nI_clamp (by omega)]
    have fr : zy_fr [(11, 0, 6), (132, 0, 1), (137, 0, 6)] I (zx_u2 (zx_u2 (zx_u2 I 11 i (nI v')) 132 0 0) 137 i (nI v')) := by
      refine zy_fr_u2 (zy_fr_u2 (zy_fr_u2 (zy_fr_rf _ _) ?_) ?_) ?_
      · exact zy_in_at 0 11 0 6 i rfl (by omega) (by omega)
      · exact zy_in_at 1 132 0 1 0 rfl (by omega) (by omega)
      · exact zy_in_at 2 137 0 6 i rfl (by omega) (by omega)
    refine ⟨?_, hq _ _ b (zc_C_cong hC (zy_fr_on fr (by decide))) ?_ (zy_fr_mono fr (by decide))⟩
    · show zx_u2 I 11 i (nI v') 137 i = I 11 i
      rw [zy_u2_na (by omega)]; exact (hP i hi).1
    · intro j hj
      by_cases e : j = i
      · subst e
        rw [zy_u2_self, zy_u2_na (by omega), zy_u2_na (by omega), zy_u2_self]
        exact ⟨rfl, v', hv'.1, hv'.2, rfl⟩
      · rw [zy_u2_nk e, zy_u2_na (by omega), zy_u2_nk e, zy_u2_na (by omega), zy_u2_na (by omega), zy_u2_nk e]
        exact hP j hj
theorem zy_c11 (hY : zx_lay Y) (hq : Qv (zx_u2 I 8 5 0, L, Y)) : zx_Cv l E d 11 [.ref 8] (I, L, Y) Qv := sg_11_0 hY ⟨rfl, hq⟩
def zw_S : List (Nat × Nat × Nat) := [(8, 5, 6), (9, 0, 10), (132, 0, 1), (132, 10, 11), (134, 0, 10)]
theorem zj_pass (hY : zx_lay Y) {P S b r : Nat} {H : List (Nat × Nat)} (hC : zc_C I P S b r H) {x y : Int32}
    (hq : ∀ v I' H', zc_C I' P S b r H' → zy_fr zw_S I I' → Q v (I', L, Y)) :
    zx_Ci l E (d + 2) 129 [.ref 3, .int x, .int y] (I, L, Y) (fun v M1 => zx_lay M1.2.2 ∧ zx_Ci l E (d + 2) 207 [.ref 132, .int x, .int y] M1 (fun w M2 => w = v ∧ Q v M2)) := by
  obtain ⟨f, n1, n2, n3, n4⟩ := zc_nm hC
  have hC0 := hC
  obtain ⟨⟨hP, h7, h3⟩, his, hn, hz, ⟨hS, h8⟩, -⟩ := hC
  have h3' : zx_u2 I 132 0 0 132 3 = nI P := h3
  have keep : zc_C (zx_u2 I 132 0 0) P S b r H := zc_C_cong hC0 (zy_fr_on zy_thr_fr (by decide))
  have kfr : zy_fr zw_S I (zx_u2 I 132 0 0) := zy_fr_mono zy_thr_fr (by decide)
  refine sg_129_0 hY _ _ (zy_155 hY hP h7 ⟨hY, fun h1 => ?_, fun h1 => ⟨_, rfl, hY, ?_⟩⟩)
  · rw [zy_b1] at h1
    have h1' := h1
    obtain ⟨i, j, hi, hj, rfl, rfl, hij⟩ := zy_two_at h1 hP
    simp only [zy_two, Bool.and_eq_true, decide_eq_true_eq] at h1'
    have vi := vp_in_nI (n := i) (N := 10) (by omega) (by omega)
    have vj := vp_in_nI (n := j) (N := 10) (by omega) (by omega)
    have bi := (n1 i (by omega)).2
    have bj := (n1 j (by omega)).2
    have l8 := zy_len8 bj
    have i9 := (n1 i (by omega)).1
    have j9 := (n1 j (by omega)).1
    have i134 := (n2 i (by omega)).1
    have j134 := (n2 j (by omega)).1
    -- the reference up to its tests
    have model : ∀ (K : Int32 → zx_M → Prop) (I1 : Nat → Nat → Int32), (∀ a k, 132 ≤ a → I1 a k = I a k) → (f i = 0 → K (-2) (zx_u2 I1 132 0 0, L, Y)) → (f i ≠ 0 → zy_len (f j) = 8 → K (-3) (zx_u2 I1 132 0 0, L, Y)) → (f i ≠ 0 → zy_len (f j) ≠ 8 → zx_To l E (d + 2) 207 57 [some (.ref 132), some (.int (nI i)), some (.int (nI j))] [] (zx_u2 I1 132 0 0, L, Y) (fun r M' => ∃ v, r = some (.int v) ∧ K v M')) → zx_Ci l E (d + 2) 207 [.ref 132, .int (nI i), .int (nI j)] (I1, L, Y) K := by
      intro K I1 hel k1 k2 k3
      have h31 : zx_u2 I1 132 0 0 132 3 = nI P := by rw [zy_u2_ne (by omega), hel 132 3 (by omega)]; exact h3
      have ei : zx_u2 I1 132 0 0 134 i = nI (f i) := by rw [zy_u2_ne (by omega), hel 134 i (by omega)]; exact i134
      have ej : zx_u2 I1 132 0 0 134 j = nI (f j) := by rw [zy_u2_ne (by omega), hel 134 j (by omega)]; exact j134
      refine sg_207_0 hY _ _ (zy_175 hY hP h31 ⟨hY, fun h => ?_, fun _ => zy_175 hY hP h31 ⟨hY, fun h => ?_, fun _ => ⟨fun h => ⟨vi, ?_⟩, fun h => absurd h h1'.2.2⟩⟩⟩)
      · rw [zy_b0, h1'.1] at h; cases h
      · rw [zy_b0, h1'.2.1] at h; cases h
      · show (¬ zx_u2 I1 132 0 0 134 (nI i).toNatClampNeg = 0 → vp_in (nI j) 10 ∧ zx_Ci l E (d + 1) 171 [.int (zx_u2 I1 132 0 0 134 (nI j).toNatClampNeg)] (zx_u2 I1 132 0 0, L, Y) _) ∧ (zx_u2 I1 132 0 0 134 (nI i).toNatClampNeg = 0 → _)
        rw [nI_clamp (by omega), nI_clamp (by omega), ei, ej, zy_eq0 (by omega)]
        refine ⟨fun h4 => ⟨vj, zy_171 hY (by omega) ⟨hY, ?_⟩⟩, fun h4 => ⟨_, rfl, k1 h4⟩⟩
        have e8 : nI (zy_len (f j)) = 8 ↔ zy_len (f j) = 8 := nI_eq (b := 8) (by omega) (by omega)
        rw [e8]
        exact ⟨fun h5 => k3 h4 h5, fun h5 => ⟨_, rfl, k2 h4 h5⟩⟩
    refine ⟨vi, vj, ?_⟩
    show (¬ I 9 (nI i).toNatClampNeg = 0 → zx_Ci l E (d + 1) 161 [.int (I 9 (nI j).toNatClampNeg)] (I, L, Y) (fun v4 M3 => zx_lay M3.2.2 ∧ (v4 < 8 → vp_in (nI i) 10 ∧ vp_in (nI j) 10 ∧ zx_Cv l E (d + 1) 11 [.ref 8] (zx_u2 (zx_u2 M3.1 9 (nI i).toNatClampNeg (I 9 (nI i).toNatClampNeg / 7)) 9 (nI j).toNatClampNeg (I 9 (nI j).toNatClampNeg * 7 + (I 9 (nI i).toNatClampNeg - I 9 (nI i).toNatClampNeg / 7 * 7)), M3.2.1, M3.2.2) _) ∧ _)) ∧ (I 9 (nI i).toNatClampNeg = 0 → _)
    rw [nI_clamp (by omega), nI_clamp (by omega), i9, j9, zy_eq0 (by omega)]
    refine ⟨fun h2 => zy_161 hY bj ⟨hY, fun h4 => ⟨vi, vj, zy_c11 hY ⟨hY, vj, ?_⟩⟩, fun h4 => ⟨_, rfl, hY, ?_⟩⟩, fun h2 => ⟨_, rfl, hY, ?_⟩⟩
    · have h4' : zy_len (f j) < 8 := (nI_ltI (b := 8) (by omega) (by omega)).mp h4
      have bj7 : f j * 7 + f i % 7 < 5764801 := by
        have : f j < 7 ^ 7 := (zy_len_lt 7 (f j)).mp (by omega)
        have e : (7 : Nat) ^ 7 = 823543 := by decide
        omega
      have di : f i % 7 ≠ 0 ∧ zy_dig (f i / 7) = true := by
        have := n4 i (by omega)
        rw [zy_dig_s h2, Bool.and_eq_true, decide_eq_true_eq] at this; exact this
      have dj : zy_dig (f j * 7 + f i % 7) = true := by
        rw [zy_dig_s (by omega), show (f j * 7 + f i % 7) % 7 = f i % 7 by omega, show (f j * 7 + f i % 7) / 7 = f j by omega, decide_eq_true di.1, n4 j (by omega)]; rfl
      have ev : nI (f j) * 7 + (nI (f i) - nI (f i) / 7 * 7) = nI (f j * 7 + f i % 7) := by
        rw [zy_r7 (by omega), show (7 : Int32) = nI 7 by decide, pk_mul, nI_add]
      rw [ev, zy_d7 (by omega)]
      refine ⟨_, rfl, hY, ?_⟩
      generalize hI1 : zx_u2 (zx_u2 (zx_u2 I 9 i (nI (f i / 7))) 9 j (nI (f j * 7 + f i % 7))) 8 5 0 = I1
      have hel : ∀ a k, 132 ≤ a → I1 a k = I a k := fun a k ha => by rw [← hI1, zy_u2_ne (by omega), zy_u2_ne (by omega), zy_u2_ne (by omega)]
      show zx_Ci l E (d + 2) 207 _ (I1, L, Y) (fun w M2 => w = I1 9 j ∧ Q (I1 9 j) M2)
      have e1j : I1 9 j = nI (f j * 7 + f i % 7) := by rw [← hI1, zy_u2_ne (by omega), zy_u2_self]
      rw [e1j]
      refine model _ I1 hel (fun h => absurd h h2) (fun _ h => absurd h (by omega)) (fun _ _ => sg_207_57 hY _ _ ?_)
      have ei : zx_u2 I1 132 0 0 134 i = nI (f i) := by rw [zy_u2_ne (by omega), hel 134 i (by omega)]; exact i134
      have ej : zx_u2 I1 132 0 0 134 j = nI (f j) := by rw [zy_u2_ne (by omega), hel 134 j (by omega)]; exact j134
      rw [nI_clamp (by omega), nI_clamp (by omega), ei, ej, ev]
      refine ⟨vj, vi, vj, sg_207_82 hY _ _ ?_⟩
      rw [nI_clamp (by omega), nI_clamp (by omega), zy_u2_nk (a := 134) (b := i) (k := j) (by omega), ei, zy_d7 (by omega), zy_u2_nk (a := 134) (b := j) (k := i) (by omega), zy_u2_self]
      refine ⟨vi, vi, vj, _, rfl, rfl, hq _ _ [] ?_ ?_⟩
      · have key : ∀ p, p < 10 → (zx_u2 (zx_u2 (zx_u2 (zx_u2 I1 132 0 0) 134 j (nI (f j * 7 + f i % 7))) 134 i (nI (f i / 7))) 132 10 0) 9 p = nI (if p = j then f j * 7 + f i % 7 else if p = i then f i / 7 else f p) := fun p hp => by
          rw [zy_u2_na (by omega), zy_u2_na (by omega), zy_u2_na (by omega), zy_u2_na (by omega), ← hI1, zy_u2_na (by omega)]
          by_cases e1 : p = j
          · subst e1; rw [zy_u2_self, if_pos rfl]
          · rw [zy_u2_nk e1, if_neg e1]
            by_cases e2 : p = i
            · subst e2; rw [zy_u2_self, if_pos rfl]
            · rw [zy_u2_nk e2, if_neg e2]; exact (n1 p hp).1
        refine zc_new hC0 (fun p hp => ?_) (fun p hp => ⟨?_, ?_, ?_⟩) (fun p hp1 hp2 => ⟨?_, ?_⟩) ⟨hS, ?_⟩ ?_ ?_ (fun a k hk => ?_)
        · rw [key p hp]
          split
          · exact zy_is_mk bj7 dj
          · split
            · exact zy_is_mk (by omega) di.2
            · exact zy_is_mk (n1 p hp).2 (n4 p hp)
        · rw [key p (by omega), zy_u2_na (by omega)]
          by_cases e1 : p = j
          · subst e1; rw [zy_u2_nk (by omega), zy_u2_self, if_pos rfl]
          · rw [if_neg e1]
            by_cases e2 : p = i
            · subst e2; rw [zy_u2_self, if_pos rfl]
            · rw [zy_u2_nk e2, zy_u2_nk e1, zy_u2_na (by omega), hel 134 p (by omega), if_neg e2]; exact (n2 p hp).1
        · rw [zy_u2_na (by omega), zy_u2_na (by omega), zy_u2_na (by omega), zy_u2_na (by omega), zy_u2_na (by omega), zy_u2_na (by omega), zy_u2_na (by omega), zy_u2_na (by omega), ← hI1, zy_u2_na (by omega), zy_u2_na (by omega), zy_u2_na (by omega), zy_u2_na (by omega), zy_u2_na (by omega), zy_u2_na (by omega)]
          exact (hn p hp).2.1
        · rw [zy_u2_na (by omega), zy_u2_na (by omega), zy_u2_na (by omega), zy_u2_na (by omega), ← hI1, zy_u2_na (by omega), zy_u2_na (by omega), zy_u2_na (by omega)]
          exact (hn p hp).2.2
        · rw [key p hp2, if_neg (by omega), if_neg (by omega), n3 p hp1 hp2]; rfl
        · rw [zy_u2_na (by omega), zy_u2_na (by omega), zy_u2_na (by omega), zy_u2_na (by omega), ← hI1, zy_u2_na (by omega), zy_u2_na (by omega), zy_u2_na (by omega)]
          exact (hz p hp1 hp2).2
        · rw [zy_u2_na (by omega), zy_u2_na (by omega), zy_u2_na (by omega), zy_u2_na (by omega), ← hI1, zy_u2_nk (by omega), zy_u2_na (by omega), zy_u2_na (by omega)]
          exact h8
        · rw [zy_u2_na (by omega), zy_u2_na (by omega), zy_u2_na (by omega), zy_u2_na (by omega), ← hI1, zy_u2_self]
        · rw [zy_u2_self]
        · have hin : (a = 8 ∧ 6 ≤ k ∧ k < 8) ∨ (a = 8 ∧ 9 ≤ k ∧ k < 10) ∨ (a = 132 ∧ 3 ≤ k ∧ k < 4) ∨ (a = 132 ∧ 8 ≤ k ∧ k < 9) := by
            obtain ⟨w, hw, e1, e2, e3⟩ := hk
            simp only [List.mem_cons, List.not_mem_nil, or_false] at hw
            rcases hw with rfl | rfl | rfl | rfl <;> simp at e1 e2 e3 <;> omega
          rw [zy_u2_ne (by omega), zy_u2_ne (by omega), zy_u2_ne (by omega), zy_u2_ne (by omega), ← hI1, zy_u2_ne (by omega), zy_u2_ne (by omega), zy_u2_ne (by omega)]
      · rw [← hI1]
        refine zy_fr_u2 (zy_fr_u2 (zy_fr_u2 (zy_fr_u2 (zy_fr_u2 (zy_fr_u2 (zy_fr_u2 (zy_fr_rf _ _) ?_) ?_) ?_) ?_) ?_) ?_) ?_
        · exact zy_in_at 1 9 0 10 i rfl (by omega) (by omega)
        · exact zy_in_at 1 9 0 10 j rfl (by omega) (by omega)
        · exact zy_in_at 0 8 5 6 5 rfl (by omega) (by omega)
        · exact zy_in_at 2 132 0 1 0 rfl (by omega) (by omega)
        · exact zy_in_at 4 134 0 10 j rfl (by omega) (by omega)
        · exact zy_in_at 4 134 0 10 i rfl (by omega) (by omega)
        · exact zy_in_at 3 132 10 11 10 rfl (by omega) (by omega)
    · have h4' : ¬ zy_len (f j) < 8 := fun q => h4 ((nI_ltI (b := 8) (by omega) (by omega)).mpr q)
      refine model _ I (fun _ _ _ => rfl) (fun h => absurd h h2) (fun _ _ => ⟨rfl, hq _ _ H keep kfr⟩) (fun _ h => absurd (show zy_len (f j) = 8 by omega) h)
    · refine model _ I (fun _ _ _ => rfl) (fun _ => ⟨rfl, hq _ _ H keep kfr⟩) (fun h => absurd h2 h) (fun h => absurd h2 h)
  · rw [zy_b0] at h1
    have fin : ∀ I1 : Nat → Nat → Int32, I1 = zx_u2 I 132 0 0 → zx_To l E (d + 2) 207 26 [none, none, none] [] (I1, L, Y) (fun r M' => ∃ v, r = some (.int v) ∧ v = -1 ∧ Q (-1) M') := fun I1 e => sg_207_26 hY ⟨_, rfl, rfl, by rw [e]; exact hq _ _ H keep kfr⟩
    refine sg_207_0 hY _ _ (zy_175 hY hP h3' ⟨hY, fun h => fin _ rfl, fun h2 => zy_175 hY hP h3' ⟨hY, fun h => fin _ rfl, fun h3 => ⟨fun h4 => ?_, fun h => fin _ rfl⟩⟩⟩)
    rw [zy_b1] at h2 h3
    unfold zy_two at h1
    rw [h2, h3, decide_eq_true h4] at h1
    cases h1
end YE
