/-! ===== rows told; begin, common, meet, pairs ===== -/
def zy_tell (I : Nat → Nat → Int32) (vs : List Int32) : Nat → Nat → Int32 := fun a k => if a = 6 ∧ k = 1 then nI vs.length else if a = 7 ∧ k < vs.length then vs.getD k 0 else I a k
def zy_ent (I : Nat → Nat → Int32) (vs : List Int32) : Nat → Nat → Int32 := fun a k => if a = 132 ∧ k = 1 then nI vs.length else if a = 133 ∧ k < vs.length then vs.getD k 0 else I a k
theorem zy_tell_nil {I : Nat → Nat → Int32} : zx_u2 I 6 1 0 = zy_tell I [] := by
  funext a k; unfold zx_u2 zy_tell; split
  · rfl
  · rw [if_neg (by simp)]
theorem zy_ent_nil {I : Nat → Nat → Int32} : zx_u2 I 132 1 0 = zy_ent I [] := by
  funext a k; unfold zx_u2 zy_ent; split
  · rfl
  · rw [if_neg (by simp)]
theorem zy_getD_app {vs : List Int32} {x : Int32} {k : Nat} : (vs ++ [x]).getD k 0 = if k = vs.length then x else vs.getD k 0 := by
  rw [List.getD_eq_getElem?_getD, List.getD_eq_getElem?_getD, List.getElem?_append]
  split
  · rw [if_neg (by omega)]
  · rename_i h
    by_cases e : k = vs.length
    · subst e; simp
    · rw [if_neg e, List.getElem?_eq_none (l := vs) (by omega)]
      rw [List.getElem?_eq_none (by simp; omega)]
theorem zy_tell_add {I : Nat → Nat → Int32} {vs : List Int32} {x : Int32} : zx_u2 (zx_u2 (zy_tell I vs) 7 vs.length x) 6 1 (nI vs.length + 1) = zy_tell I (vs ++ [x]) := by
  funext a k
  unfold zx_u2 zy_tell
  rw [List.length_append, List.length_singleton, zy_getD_app]
  by_cases h1 : a = 6 ∧ k = 1
  · rw [if_pos h1, if_pos h1]; exact nI_add _ 1
  · simp only [if_neg h1]
    by_cases h2 : a = 7 ∧ k = vs.length
    · rw [if_pos h2, if_pos ⟨h2.1, by omega⟩, if_pos h2.2]
    · rw [if_neg h2]
      by_cases h3 : a = 7 ∧ k < vs.length
      · rw [if_pos h3, if_pos (by omega), if_neg (by omega)]
      · rw [if_neg h3, if_neg (by omega)]
theorem zy_ent_add {I : Nat → Nat → Int32} {vs : List Int32} {x : Int32} : zx_u2 (zx_u2 (zy_ent I vs) 133 vs.length x) 132 1 (nI vs.length + 1) = zy_ent I (vs ++ [x]) := by
  funext a k
  unfold zx_u2 zy_ent
  rw [List.length_append, List.length_singleton, zy_getD_app]
  by_cases h1 : a = 132 ∧ k = 1
  · rw [if_pos h1, if_pos h1]; exact nI_add _ 1
  · simp only [if_neg h1]
    by_cases h2 : a = 133 ∧ k = vs.length
    · rw [if_pos h2, if_pos ⟨h2.1, by omega⟩, if_pos h2.2]
    · rw [if_neg h2]
      by_cases h3 : a = 133 ∧ k < vs.length
      · rw [if_pos h3, if_pos (by omega), if_neg (by omega)]
      · rw [if_neg h3, if_neg (by omega)]
theorem zy_tell_el {I : Nat → Nat → Int32} {vs : List Int32} {a k : Nat} (h : ¬ (a = 6 ∧ k = 1) ∧ a ≠ 7) : zy_tell I vs a k = I a k := by unfold zy_tell; rw [if_neg h.1, if_neg (fun q => h.2 q.1)]
theorem zy_ent_el {I : Nat → Nat → Int32} {vs : List Int32} {a k : Nat} (h : ¬ (a = 132 ∧ k = 1) ∧ a ≠ 133) : zy_ent I vs a k = I a k := by unfold zy_ent; rw [if_neg h.1, if_neg (fun q => h.2 q.1)]
def zr_R : List (Nat × Nat × Nat) := [(6, 1, 2), (7, 0, 12), (132, 1, 2), (133, 0, 12)]
/-- the rows told last -/
def zc_R (I : Nat → Nat → Int32) (vs : List Int32) : Prop := vs.length ≤ 12 ∧ I 6 1 = nI vs.length ∧ I 132 1 = nI vs.length ∧ ∀ j, j < vs.length → I 7 j = vs.getD j 0 ∧ I 133 j = vs.getD j 0
theorem zc_R_cong {I I' : Nat → Nat → Int32} {vs : List Int32} (h : zc_R I vs) (hf : ∀ a k, zy_in zr_R a k → I' a k = I a k) : zc_R I' vs := by
  obtain ⟨h1, h2, h3, h4⟩ := h
  refine ⟨h1, ?_, ?_, fun j hj => ?_⟩
  · rw [hf 6 1 (zy_in_at 0 6 1 2 1 rfl (by omega) (by omega))]; exact h2
  · rw [hf 132 1 (zy_in_at 2 132 1 2 1 rfl (by omega) (by omega))]; exact h3
  · rw [hf 7 j (zy_in_at 1 7 0 12 j rfl (by omega) (by omega)), hf 133 j (zy_in_at 3 133 0 12 j rfl (by omega) (by omega))]; exact h4 j hj
/-- what a call that only tells may write -/
def zw_R : List (Nat × Nat × Nat) := [(6, 1, 2), (7, 0, 12), (132, 0, 2), (133, 0, 12)]
theorem zy_tell_fr {I J : Nat → Nat → Int32} {vs : List Int32} (h : zy_fr zw_R I J) (hl : vs.length ≤ 12) : zy_fr zw_R I (zy_tell J vs) := by
  intro a k hk
  have g : ∀ j a' lo hi, zw_R[j]? = some (a', lo, hi) → ¬ (a = a' ∧ lo ≤ k ∧ k < hi) := fun j a' lo hi h q => hk (by rw [q.1]; exact zy_in_at j a' lo hi k h q.2.1 q.2.2)
  have g1 := g 0 6 1 2 rfl
  have g2 := g 1 7 0 12 rfl
  unfold zy_tell
  rw [if_neg (by omega), if_neg (by omega)]
  exact h a k hk
theorem zy_ent_fr {I J : Nat → Nat → Int32} {vs : List Int32} (h : zy_fr zw_R I J) (hl : vs.length ≤ 12) : zy_fr zw_R I (zy_ent J vs) := by
  intro a k hk
  have g : ∀ j a' lo hi, zw_R[j]? = some (a', lo, hi) → ¬ (a = a' ∧ lo ≤ k ∧ k < hi) := fun j a' lo hi h q => hk (by rw [q.1]; exact zy_in_at j a' lo hi k h q.2.1 q.2.2)
  have g1 := g 2 132 0 2 rfl
  have g2 := g 3 133 0 12 rfl
  unfold zy_ent
  rw [if_neg (by omega), if_neg (by omega)]
  exact h a k hk
theorem zw_R_0 : zy_in zw_R 132 0 := zy_in_at 2 132 0 2 0 rfl (by omega) (by omega)
theorem zc_R_tell {I J : Nat → Nat → Int32} {vs : List Int32} (hl : vs.length ≤ 12) (h : ∀ a k, (a = 6 ∧ k = 1) ∨ a = 7 → J a k = zy_tell I vs a k) : zc_R (zy_ent J vs) vs := by
  refine ⟨hl, ?_, ?_, fun j hj => ⟨?_, ?_⟩⟩
  · rw [zy_ent_el (by omega), h 6 1 (by omega)]; unfold zy_tell; rw [if_pos (by omega)]
  · unfold zy_ent; rw [if_pos (by omega)]
  · rw [zy_ent_el (by omega), h 7 j (by omega)]; unfold zy_tell; rw [if_neg (by omega), if_pos (by omega)]
  · unfold zy_ent; rw [if_neg (by omega), if_pos (by omega)]
/-- names as numbers -/
theorem zc_nm {I : Nat → Nat → Int32} {P S b r : Nat} {H : List (Nat × Nat)} (hC : zc_C I P S b r H) : ∃ f : Nat → Nat, (∀ p, p < 10 → I 9 p = nI (f p) ∧ f p < 5764801) ∧ (∀ p, p < P → I 134 p = nI (f p) ∧ f p < 5764801) ∧ (∀ p, P ≤ p → p < 10 → f p = 0) ∧ (∀ p, p < 10 → zy_dig (f p) = true) := by
  obtain ⟨⟨hP, -⟩, his, hn, hz, -⟩ := hC
  refine ⟨fun p => zy_n (I 9 p), fun p hp => ?_, fun p hp => ?_, fun p h1 h2 => ?_, fun p hp => (zy_is_n (his p hp)).2.2⟩
  · have := zy_is_n (his p hp); exact ⟨this.1, this.2.1⟩
  · have := zy_is_n (his p (by omega)); rw [(hn p hp).1]; exact ⟨this.1, this.2.1⟩
  · show zy_n (I 9 p) = 0; rw [(hz p h1 h2).1]; rfl
def zy_bg (f : Nat → Nat) (s : Nat) : Nat → Bool := fun p => decide (f p ≠ 0) && zy_st (f p) s
theorem zy_bg_P {f : Nat → Nat} {P s : Nat} (hP : P ≤ 10) (hz : ∀ p, P ≤ p → p < 10 → f p = 0) : zy_orN (zy_bg f s) 10 = zy_orN (zy_bg f s) P := by
  refine zy_orN_ext hP (fun p h1 h2 => ?_)
  unfold zy_bg
  rw [decide_eq_false (fun q => q (hz p h1 h2)), Bool.false_and]
section YR
variable {l : Launch} {E : zx_E} {d : Nat} {I : Nat → Nat → Int32} {L : Nat → Nat → Int64} {Y : zx_Y} {Qo : Option Value → zx_M → Prop} {Q : Int32 → zx_M → Prop} {Qv : zx_M → Prop}
theorem zy_81 (hY : zx_lay Y) (hq : Qv (zy_tell I [], L, Y)) : zx_Cv l E d 81 [.ref 6] (I, L, Y) Qv := sg_81_0 hY (by rw [zy_tell_nil]; exact ⟨rfl, hq⟩)
theorem zy_82 (hY : zx_lay Y) {vs : List Int32} {x : Int32} (hl : vs.length < 12) (hq : Qv (zy_tell I (vs ++ [x]), L, Y)) : zx_Cv l E d 82 [.ref 6, .int x] (zy_tell I vs, L, Y) Qv := by
  have e : zy_tell I vs 6 1 = nI vs.length := by unfold zy_tell; rw [if_pos (by omega)]
  refine sg_82_0 hY _ ⟨fun h1 => ?_, fun _ => ⟨?_, ?_⟩⟩
  · rw [e] at h1
    have := (nI_leI (a := 12) (by omega) (by omega)).mp h1
    omega
  · rw [e]; exact vp_in_nI hl (by omega)
  · rw [e, nI_clamp (by omega), zy_tell_add]; exact ⟨rfl, hq⟩
theorem zy_170 (hY : zx_lay Y) {vs : List Int32} {x : Int32} (hl : vs.length < 12) (hq : Qv (zy_ent I (vs ++ [x]), L, Y)) : zx_Cv l E d 170 [.ref 132, .int x] (zy_ent I vs, L, Y) Qv := by
  have e : zy_ent I vs 132 1 = nI vs.length := by unfold zy_ent; rw [if_pos (by omega)]
  refine sg_170_0 hY _ ⟨?_, ?_⟩
  · rw [e]; exact vp_in_nI (by omega) (by omega)
  · rw [e, nI_clamp (by omega), zy_ent_add]; exact ⟨rfl, hq⟩
/-- Crowd.beginners -/
theorem zy_c6 (hY : zx_lay Y) {f : Nat → Nat} (hn : ∀ p, p < 10 → I 9 p = nI (f p) ∧ f p < 5764801) {s : Nat} (hs : s < 2 ^ 31) (hq : Q (nI (zy_orN (zy_bg f s) 10)) (I, L, Y)) : zx_Ci l E (d + 1) 6 [.ref 8, .int (nI s)] (I, L, Y) Q := by
  rw [← zy_or_nI _ 10 (by omega)] at hq
  refine sg_6_0 hY _ ?_
  refine zy_down (n := 10) (P := fun i => zx_To l E (d + 1) 6 4 [some (.ref 8), some (.int (nI s)), some (.int (zy_or (zy_bg f s) i)), some (.int (nI i))] [] (I, L, Y) _) ?_ (fun i hi ih => ?_)
  · exact sg_6_4 hY _ _ _ ⟨fun _ => ⟨_, rfl, hq⟩, fun h1 => absurd ((zy_10 (by omega)).mpr (Nat.le_refl _)) h1⟩
  · obtain ⟨e1, e2⟩ := hn i hi
    have e3 : zy_or (zy_bg f s) (i + 1) = if zy_bg f s i then zy_or (zy_bg f s) i ||| ((1 : Int32) <<< (nI i &&& 31)) else zy_or (zy_bg f s) i := rfl
    refine sg_6_4 hY _ _ _ ⟨fun h1 => absurd ((zy_10 (by omega)).mp h1) (by omega), fun _ => ⟨vp_in_nI hi (by omega), ?_⟩⟩
    rw [nI_clamp (by omega), e1]
    refine ⟨fun h2 => ?_, fun h2 => ⟨vp_in_nI hi (by omega), zy_162 hY e2 hs ⟨hY, fun h3 => ?_, fun h3 => ?_⟩⟩⟩
    · rw [zy_eq0 (by omega)] at h2
      have e4 : zy_bg f s i = false := by unfold zy_bg; rw [h2]; rfl
      rw [nI_1]
      rw [e3, e4] at ih
      exact ih
    · rw [zy_b0] at h3
      have e4 : zy_bg f s i = false := by unfold zy_bg; rw [h3, Bool.and_false]
      rw [nI_1]
      rw [e3, e4] at ih
      exact ih
    · rw [zy_b1] at h3
      rw [zy_eq0 (by omega)] at h2
      have e4 : zy_bg f s i = true := by unfold zy_bg; rw [h3, decide_eq_true h2]; rfl
      rw [nI_1]
      rw [e3, e4] at ih
      exact ih
/-- the model's begin, of a code -/
theorem zy_196 (hY : zx_lay Y) {P : Nat} (hP : P ≤ 10) (hp : I 132 3 = nI P) {f : Nat → Nat} (hn : ∀ p, p < P → I 134 p = nI (f p) ∧ f p < 5764801) {s : Nat} (hs : zy_is (nI s) = true) (hs2 : s < 2 ^ 31) (hq : Q (nI (zy_orN (zy_bg f s) P)) (zx_u2 I 132 0 0, L, Y)) : zx_Ci l E (d + 3) 196 [.ref 132, .int (nI s)] (I, L, Y) Q := by
  rw [← zy_or_nI _ P (by omega)] at hq
  have hl := zy_len31 hs2
  refine sg_196_0 hY _ (zy_172 hY ⟨hY, fun _ => ?_, fun h1 => ?_⟩)
  · have hp' : zx_u2 I 132 0 0 132 3 = nI P := by rw [zy_u2_nk (by omega)]; exact hp
    refine zy_down (n := P) (P := fun i => zx_To l E (d + 3) 196 18 [some (.ref 132), some (.int (nI s)), some (.int (zy_or (zy_bg f s) i)), some (.int (nI i))] [] (zx_u2 I 132 0 0, L, Y) _) ?_ (fun i hi ih => ?_)
    · refine sg_196_18 hY _ _ _ ⟨fun _ => ⟨_, rfl, hq⟩, fun h1 => absurd (by rw [hp']; exact (nI_leI (by omega) (by omega)).mpr (Nat.le_refl _)) h1⟩
    · obtain ⟨e1, e2⟩ := hn i hi
      have e1' : zx_u2 I 132 0 0 134 i = nI (f i) := by rw [zy_u2_na (by omega)]; exact e1
      have e3 : zy_or (zy_bg f s) (i + 1) = if zy_bg f s i then zy_or (zy_bg f s) i ||| ((1 : Int32) <<< (nI i &&& 31)) else zy_or (zy_bg f s) i := rfl
      have hl2 := zy_len8 e2
      refine sg_196_18 hY _ _ _ ⟨fun h1 => ?_, fun _ => ⟨vp_in_nI (by omega) (by omega), ?_⟩⟩
      · rw [hp', nI_leI (by omega) (by omega)] at h1; omega
      have hno : zy_bg f s i = false → zx_To l E (d + 3) 196 18 [some (.ref 132), some (.int (nI s)), some (.int (zy_or (zy_bg f s) i ||| 0)), some (.int (nI i + 1))] [] (zx_u2 I 132 0 0, L, Y) (fun r M' => ∃ v, r = some (.int v) ∧ Q v M') := fun e4 => by
        rw [nI_1, zy_or0]
        rw [e3, e4] at ih
        exact ih
      rw [nI_clamp (by omega), e1']
      refine ⟨fun h2 => hno ?_, fun h2 => ⟨vp_in_nI (by omega) (by omega), zy_171 hY (by omega) ⟨hY, zy_171 hY hs2 ⟨hY, fun h3 => hno ?_, fun h3 => ⟨vp_in_nI (by omega) (by omega), ?_⟩⟩⟩⟩⟩
      · rw [zy_le0 (by omega)] at h2
        unfold zy_bg; rw [h2]; rfl
      · rw [nI_ltI (by omega) (by omega)] at h3
        have : zy_st (f i) s = false := by
          unfold zy_st
          rw [zy_pf_self (by omega)]
          exact decide_eq_false (fun q => by rw [q] at h3; omega)
        unfold zy_bg; rw [this, Bool.and_false]
      · show zx_Ci l E (d + 2) 195 [.int (zx_u2 I 132 0 0 134 i), .int (nI s)] (zx_u2 I 132 0 0, L, Y) _
        rw [e1']
        refine zy_195 hY (by omega) hs2 ⟨hY, fun h4 => hno ?_, fun h4 => ?_⟩
        · rw [zy_b0] at h4
          unfold zy_bg; rw [h4, Bool.and_false]
        · rw [zy_b1] at h4
          rw [zy_le0 (by omega)] at h2
          have e4 : zy_bg f s i = true := by unfold zy_bg; rw [h4, decide_eq_true h2]; rfl
          rw [nI_1]
          rw [e3, e4] at ih
          exact ih
  · rw [zy_b0, hs] at h1; cases h1
theorem zj_begin (hY : zx_lay Y) {P S b r : Nat} {H : List (Nat × Nat)} (hC : zc_C I P S b r H) {x : Int32}
    (hq : ∀ v : Int32, Q v (zx_u2 I 132 0 0, L, Y)) :
    zx_Ci l E (d + 3) 126 [.ref 3, .int x] (I, L, Y) (fun v M1 => zx_lay M1.2.2 ∧ zx_Ci l E (d + 3) 196 [.ref 132, .int x] M1 (fun w M2 => w = v ∧ Q v M2)) := by
  obtain ⟨f, n1, n2, n3, n4⟩ := zc_nm hC
  obtain ⟨⟨hP, h7, h3⟩, -⟩ := hC
  refine sg_126_0 hY _ (zy_160 hY ⟨hY, fun h1 => ⟨_, rfl, hY, ?_⟩, fun h1 => ?_⟩)
  · rw [zy_b0] at h1
    refine sg_196_0 hY _ (zy_172 hY ⟨hY, fun h2 => ?_, fun _ => ⟨_, rfl, rfl, hq _⟩⟩)
    rw [zy_b1, h1] at h2; cases h2
  · rw [zy_b1] at h1
    have h1' := h1
    obtain ⟨s, rfl, hs, -⟩ := zy_is_of h1
    refine zy_c6 hY n1 (by omega) ⟨hY, _, rfl, hY, zy_196 hY hP h3 n2 h1' (by omega) ?_⟩
    rw [zy_bg_P hP n3]
    exact ⟨rfl, hq _⟩
/-- areTwo -/
def zy_two (P : Nat) (x y : Int32) : Bool := zy_one P x && (zy_one P y && decide (x ≠ y))
theorem zy_155 (hY : zx_lay Y) {P : Nat} (hP : P ≤ 10) (hp : I 8 7 = nI P) {x y : Int32} (hq : Q (if zy_two P x y then 1 else 0) (I, L, Y)) : zx_Ci l E (d + 1) 155 [.ref 3, .int x, .int y] (I, L, Y) Q := by
  unfold zy_two at hq
  refine sg_155_0 hY _ _ (zy_1 hY hP hp ⟨hY, fun h1 => ⟨_, rfl, ?_⟩, fun h1 => zy_1 hY hP hp ⟨hY, fun h2 => ⟨_, rfl, ?_⟩, fun h2 => ⟨fun h3 => ⟨_, rfl, ?_⟩, fun h3 => ⟨_, rfl, ?_⟩⟩⟩⟩)
  · rw [zy_b0] at h1; rw [h1] at hq; exact hq
  · rw [zy_b0] at h2; rw [h2, Bool.false_and, Bool.and_false] at hq; exact hq
  · rw [decide_eq_false (fun q => q h3), Bool.and_false, Bool.and_false] at hq; exact hq
  · rw [zy_b1] at h1 h2; rw [h1, h2, decide_eq_true h3] at hq; exact hq
theorem zy_213 (hY : zx_lay Y) {P : Nat} (hP : P ≤ 10) (hp : I 132 3 = nI P) {x y : Int32} (hq : Q (if zy_two P x y then 1 else 0) (I, L, Y)) : zx_Ci l E (d + 2) 213 [.ref 132, .int x, .int y] (I, L, Y) Q := by
  unfold zy_two at hq
  refine sg_213_0 hY _ _ (zy_175 hY hP hp ⟨hY, fun h1 => ⟨_, rfl, ?_⟩, fun h1 => zy_175 hY hP hp ⟨hY, fun h2 => ⟨_, rfl, ?_⟩, fun h2 => ⟨fun h3 => ⟨_, rfl, ?_⟩, fun h3 => ⟨_, rfl, ?_⟩⟩⟩⟩)
  · rw [zy_b0] at h1; rw [h1] at hq; exact hq
  · rw [zy_b0] at h2; rw [h2, Bool.false_and, Bool.and_false] at hq; exact hq
  · rw [decide_eq_false (fun q => q h3), Bool.and_false, Bool.and_false] at hq; exact hq
  · rw [zy_b1] at h1 h2; rw [h1, h2, decide_eq_true h3] at hq; exact hq
theorem zy_two_at {P : Nat} {x y : Int32} (h : zy_two P x y = true) (hP : P ≤ 10) : ∃ i j : Nat, i < P ∧ j < P ∧ x = nI i ∧ y = nI j ∧ i ≠ j := by
  simp only [zy_two, Bool.and_eq_true, decide_eq_true_eq] at h
  obtain ⟨i, hi, rfl⟩ := zy_one_at h.1 (by omega)
  obtain ⟨j, hj, rfl⟩ := zy_one_at h.2.1 (by omega)
  exact ⟨i, j, hi, hj, rfl, rfl, fun q => h.2.2 (by rw [q])⟩
theorem zj_common (hY : zx_lay Y) {P S b r : Nat} {H : List (Nat × Nat)} (hC : zc_C I P S b r H) {x y : Int32}
    (hq : ∀ v : Int32, Q v (zx_u2 I 132 0 0, L, Y)) :
    zx_Ci l E (d + 3) 132 [.ref 3, .int x, .int y] (I, L, Y) (fun v M1 => zx_lay M1.2.2 ∧ zx_Ci l E (d + 3) 214 [.ref 132, .int x, .int y] M1 (fun w M2 => w = v ∧ Q v M2)) := by
  obtain ⟨f, n1, n2, n3, n4⟩ := zc_nm hC
  obtain ⟨⟨hP, h7, h3⟩, -⟩ := hC
  have h3' : zx_u2 I 132 0 0 132 3 = nI P := h3
  refine sg_132_0 hY _ _ (zy_155 hY hP h7 ⟨hY, fun h1 => ⟨_, rfl, hY, ?_⟩, fun h1 => ?_⟩)
  · rw [zy_b0] at h1
    refine sg_214_0 hY _ _ (zy_213 hY hP h3' ⟨hY, fun _ => ⟨_, rfl, rfl, hq _⟩, fun h2 => ?_⟩)
    rw [zy_b1, h1] at h2; cases h2
  · rw [zy_b1] at h1
    obtain ⟨i, j, hi, hj, rfl, rfl, hij⟩ := zy_two_at h1 hP
    have vi := vp_in_nI (n := i) (N := 10) (by omega) (by omega)
    have vj := vp_in_nI (n := j) (N := 10) (by omega) (by omega)
    refine ⟨vi, vj, ?_⟩
    show zx_Ci l E (d + 2) 163 [.int (I 9 (nI i).toNatClampNeg), .int (I 9 (nI j).toNatClampNeg)] (I, L, Y) _
    rw [nI_clamp (by omega), nI_clamp (by omega), (n1 i (by omega)).1, (n1 j (by omega)).1]
    have bi := (n1 i (by omega)).2
    have bj := (n1 j (by omega)).2
    obtain ⟨k1, k2, k3⟩ := zy_cp_ok bi bj
    have k4 := zy_len8 (zy_cp_lt bi bj).1
    refine zy_163 hY (by omega) (by omega) ⟨hY, _, rfl, hY, sg_214_0 hY _ _ (zy_213 hY hP h3' ⟨hY, fun h2 => ?_, fun _ => ⟨vi, vi, vj, ?_⟩⟩)⟩
    · rw [zy_b0, h1] at h2; cases h2
    · show zx_Ci l E (d + 2) 174 [.int (I 134 (nI i).toNatClampNeg), .int (I 134 (nI j).toNatClampNeg)] (zx_u2 I 132 0 0, L, Y) (fun v M => zx_lay M.2.2 ∧ zx_Ci l E (d + 2) 173 [.int (I 134 (nI i).toNatClampNeg), .int v] _ _)
      rw [nI_clamp (by omega), nI_clamp (by omega), (n2 i (by omega)).1, (n2 j (by omega)).1]
      refine zy_174 hY bi bj ⟨hY, zy_173 hY (by omega) (by omega) ⟨hY, _, rfl, ?_, hq _⟩⟩
      rw [← k1]
theorem zj_meet (hY : zx_lay Y) {P S b r : Nat} {H : List (Nat × Nat)} (hC : zc_C I P S b r H) {x y : Int32}
    (hq : ∀ v : Int32, Q v (zx_u2 I 132 0 0, L, Y)) :
    zx_Ci l E (d + 3) 133 [.ref 3, .int x, .int y] (I, L, Y) (fun v M1 => zx_lay M1.2.2 ∧ zx_Ci l E (d + 3) 215 [.ref 132, .int x, .int y] M1 (fun w M2 => w = v ∧ Q v M2)) := by
  obtain ⟨f, n1, n2, n3, n4⟩ := zc_nm hC
  obtain ⟨⟨hP, h7, h3⟩, -⟩ := hC
  have h3' : zx_u2 I 132 0 0 132 3 = nI P := h3
  refine sg_133_0 hY _ _ (zy_155 hY hP h7 ⟨hY, fun h1 => ?_, fun h1 => ⟨_, rfl, hY, ?_⟩⟩)
  · rw [zy_b1] at h1
    obtain ⟨i, j, hi, hj, rfl, rfl, hij⟩ := zy_two_at h1 hP
    have vi := vp_in_nI (n := i) (N := 10) (by omega) (by omega)
    have vj := vp_in_nI (n := j) (N := 10) (by omega) (by omega)
    have bi := (n1 i (by omega)).2
    have bj := (n1 j (by omega)).2
    obtain ⟨k1, k2, k3⟩ := zy_cp_lt bi bj
    have k4 := zy_len8 k1
    refine ⟨vi, vj, ?_⟩
    show zx_Ci l E (d + 2) 163 [.int (I 9 (nI i).toNatClampNeg), .int (I 9 (nI j).toNatClampNeg)] (I, L, Y) _
    rw [nI_clamp (by omega), nI_clamp (by omega), (n1 i (by omega)).1, (n1 j (by omega)).1]
    refine zy_163 hY (by omega) (by omega) ⟨hY, zy_161 hY k1 ⟨hY, vi, ?_⟩⟩
    show zx_Ci l E (d + 2) 161 [.int (I 9 i)] (I, L, Y) _
    rw [(n1 i (by omega)).1]
    refine zy_161 hY bi ⟨hY, vj, ?_⟩
    show zx_Ci l E (d + 2) 161 [.int (I 9 j)] (I, L, Y) _
    rw [(n1 j (by omega)).1]
    have model : ∀ v : Int32, v = (if zy_len (zy_cp (f i) (f j)) = 0 then -2 else nI (zy_len (f i)) + nI (zy_len (f j)) - 2 * nI (zy_len (zy_cp (f i) (f j)))) → zx_Ci l E (d + 3) 215 [.ref 132, .int (nI i), .int (nI j)] (I, L, Y) (fun w M2 => w = v ∧ Q v M2) := fun v hv => by
      refine sg_215_0 hY _ _ (zy_213 hY hP h3' ⟨hY, fun _ => ⟨vi, vj, ?_⟩, fun h2 => ?_⟩)
      · show zx_Ci l E (d + 2) 174 [.int (I 134 (nI i).toNatClampNeg), .int (I 134 (nI j).toNatClampNeg)] (zx_u2 I 132 0 0, L, Y) _
        rw [nI_clamp (by omega), nI_clamp (by omega), (n2 i (by omega)).1, (n2 j (by omega)).1]
        refine zy_174 hY bi bj ⟨hY, fun h4 => ⟨vi, ?_⟩, fun h4 => ⟨_, rfl, ?_, hq _⟩⟩
        · show zx_Ci l E (d + 2) 171 [.int (I 134 i)] (zx_u2 I 132 0 0, L, Y) _
          rw [(n2 i (by omega)).1]
          refine zy_171 hY (by omega) ⟨hY, vj, ?_⟩
          show zx_Ci l E (d + 2) 171 [.int (I 134 j)] (zx_u2 I 132 0 0, L, Y) _
          rw [(n2 j (by omega)).1]
          refine zy_171 hY (by omega) ⟨hY, _, rfl, ?_, hq _⟩
          rw [hv, if_neg (fun q => h4 ((zy_eq0 (by omega)).mpr q))]
        · rw [hv, if_pos ((zy_eq0 (by omega)).mp h4)]
      · rw [zy_b0, h1] at h2; cases h2
    refine zy_161 hY bj ⟨hY, fun h4 => ⟨_, rfl, hY, model _ ?_⟩, fun h4 => ⟨_, rfl, hY, model _ ?_⟩⟩
    · rw [if_neg (fun q => h4 ((zy_eq0 (by omega)).mpr q))]
    · rw [if_pos ((zy_eq0 (by omega)).mp h4)]
  · rw [zy_b0] at h1
    refine sg_215_0 hY _ _ (zy_213 hY hP h3' ⟨hY, fun h2 => ?_, fun _ => ⟨_, rfl, rfl, hq _⟩⟩)
    rw [zy_b1, h1] at h2; cases h2
end YR
