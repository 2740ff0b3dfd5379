/-! ===== pairs ===== -/
def zy_ps (g : Nat → Nat → Bool) (i j : Nat) (t : Nat × List Int32) : Nat × List Int32 := if g i j then (t.1 + 1, if t.1 = 0 then [nI i, nI j] else t.2) else t
def zy_pj (g : Nat → Nat → Bool) (i : Nat) (t : Nat × List Int32) : Nat → Nat × List Int32
  | 0 => t
  | m + 1 => zy_ps g i (i + 1 + m) (zy_pj g i t m)
def zy_pi (g : Nat → Nat → Bool) (P : Nat) : Nat → Nat × List Int32
  | 0 => (0, [])
  | i + 1 => zy_pj g i (zy_pi g P i) (P - (i + 1))
def zy_pok (B : Nat) (t : Nat × List Int32) : Prop := t.1 ≤ B ∧ (t.1 = 0 → t.2 = []) ∧ t.2.length ≤ 2
theorem zy_ps_ok {g : Nat → Nat → Bool} {i j B : Nat} {t : Nat × List Int32} (h : zy_pok B t) : zy_pok (B + 1) (zy_ps g i j t) := by
  obtain ⟨h1, h2, h3⟩ := h
  unfold zy_ps
  split
  · refine ⟨by show t.1 + 1 ≤ B + 1; omega, fun q => absurd q (by show t.1 + 1 ≠ 0; omega), ?_⟩
    show (if t.1 = 0 then [nI i, nI j] else t.2).length ≤ 2
    split
    · exact Nat.le_refl _
    · exact h3
  · exact ⟨by omega, h2, h3⟩
theorem zy_pj_ok {g : Nat → Nat → Bool} {i B : Nat} {t : Nat × List Int32} (h : zy_pok B t) : ∀ m, zy_pok (B + m) (zy_pj g i t m)
  | 0 => h
  | m + 1 => zy_ps_ok (zy_pj_ok h m)
theorem zy_pi_ok {g : Nat → Nat → Bool} {P : Nat} : ∀ i, zy_pok (P * i) (zy_pi g P i)
  | 0 => ⟨Nat.zero_le _, fun _ => rfl, Nat.zero_le _⟩
  | i + 1 => by
    have := zy_pj_ok (g := g) (i := i) (zy_pi_ok (g := g) (P := P) i) (P - (i + 1))
    refine ⟨Nat.le_trans this.1 ?_, this.2⟩
    rw [Nat.mul_succ]; omega
section YPa
variable {l : Launch} {E : zx_E} {d : Nat} {I : Nat → Nat → Int32} {L : Nat → Nat → Int64} {Y : zx_Y} {Qo : Option Value → zx_M → Prop} {Q : Int32 → zx_M → Prop} {Qv : zx_M → Prop}
theorem zy_134 (hY : zx_lay Y) {P : Nat} (hP : P ≤ 10) (hp : I 8 7 = nI P) {f : Nat → Nat} (hn : ∀ p, p < 10 → I 9 p = nI (f p) ∧ f p < 5764801) {k : Int32}
    (hq : if decide (0 ≤ k.toInt ∧ k.toInt ≤ 8) then Q (nI (zy_pi (fun i j => zy_cm (f i) (f j) k) P P).1) (zy_tell I (zy_pi (fun i j => zy_cm (f i) (f j) k) P P).2, L, Y) else Q (-1) (I, L, Y)) : zx_Ci l E (d + 2) 134 [.ref 3, .int k] (I, L, Y) Q := by
  have e8 : (8 : Int32).toInt = 8 := by decide
  refine sg_134_0 hY _ ⟨fun h1 => ⟨_, rfl, ?_⟩, fun h1 => ⟨fun h2 => ?_, fun h2 => ⟨_, rfl, ?_⟩⟩⟩
  · rw [Int32.lt_iff_toInt_lt, zy_i0] at h1
    rw [decide_eq_false (by omega)] at hq; exact hq
  · rw [Int32.lt_iff_toInt_lt, zy_i0] at h1
    rw [Int32.le_iff_toInt_le, e8] at h2
    rw [decide_eq_true (by omega)] at hq
    generalize hg : (fun i j => zy_cm (f i) (f j) k) = g at hq
    refine zy_81 hY ⟨hY, ?_⟩
    have bnd : ∀ i, i ≤ 10 → P * i ≤ 100 := fun i hi => Nat.le_trans (Nat.mul_le_mul hP hi) (by omega)
    refine zy_down (n := P) (P := fun i => zx_To l E (d + 2) 134 23 [some (.ref 3), some (.int k), some (.int (nI (zy_pi g P i).1)), some (.int (nI i)), none] [] (zy_tell I (zy_pi g P i).2, L, Y) (fun r M' => ∃ v, r = some (.int v) ∧ Q v M')) ?_ (fun i hi ih => ?_)
    · refine sg_134_23 hY _ _ _ ⟨fun _ => ⟨_, rfl, hq⟩, fun h3 => absurd ?_ h3⟩
      rw [zy_tell_el (by omega), hp]; exact (nI_leI (by omega) (by omega)).mpr (Nat.le_refl _)
    · refine sg_134_23 hY _ _ _ ⟨fun h3 => ?_, fun _ => ?_⟩
      · rw [zy_tell_el (by omega), hp, nI_leI (by omega) (by omega)] at h3; omega
      rw [nI_1]
      refine zy_down (n := P - (i + 1)) (P := fun m => zx_To l E (d + 2) 134 39 [some (.ref 3), some (.int k), some (.int (nI (zy_pj g i (zy_pi g P i) m).1)), some (.int (nI i)), some (.int (nI (i + 1 + m)))] [] (zy_tell I (zy_pj g i (zy_pi g P i) m).2, L, Y) (fun r M' => ∃ v, r = some (.int v) ∧ Q v M')) ?_ (fun m hm ih2 => ?_)
      · refine sg_134_39 hY _ _ _ _ ⟨fun _ => ?_, fun h3 => absurd ?_ h3⟩
        · rw [nI_1]; exact ih
        · rw [zy_tell_el (by omega), hp]; exact (nI_leI (by omega) (by omega)).mpr (by omega)
      · have hok := zy_pj_ok (g := g) (i := i) (zy_pi_ok (g := g) (P := P) i) m
        have hb := bnd i (by omega)
        have hst : zy_pj g i (zy_pi g P i) (m + 1) = zy_ps g i (i + 1 + m) (zy_pj g i (zy_pi g P i) m) := rfl
        obtain ⟨k1, k2, k3⟩ := hok
        generalize zy_pj g i (zy_pi g P i) m = t at *
        refine sg_134_39 hY _ _ _ _ ⟨fun h3 => ?_, fun _ => ⟨vp_in_nI (by omega) (by omega), vp_in_nI (by omega) (by omega), ?_⟩⟩
        · rw [zy_tell_el (by omega), hp, nI_leI (by omega) (by omega)] at h3; omega
        rw [nI_clamp (by omega), nI_clamp (by omega), zy_tell_el (by omega), zy_tell_el (by omega), (hn i (by omega)).1, (hn (i + 1 + m) (by omega)).1]
        have eg : g i (i + 1 + m) = zy_cm (f i) (f (i + 1 + m)) k := by rw [← hg]
        rw [hst] at ih2
        unfold zy_ps at ih2
        refine zy_164 hY (hn i (by omega)).2 (hn _ (by omega)).2 ⟨hY, fun h3 => ⟨fun h4 => ?_, fun h4 => ?_⟩, fun h3 => ?_⟩
        · rw [zy_b1, ← eg] at h3
          rw [zy_eq0 (by omega)] at h4
          rw [if_pos h3, if_neg h4] at ih2
          rw [nI_1, nI_1]; exact ih2
        · rw [zy_b1, ← eg] at h3
          rw [zy_eq0 (by omega)] at h4
          rw [if_pos h3, if_pos h4] at ih2
          rw [k2 h4]
          refine zy_82 hY (by simp) ⟨hY, zy_82 hY (by simp) ⟨hY, ?_⟩⟩
          rw [nI_1, nI_1]; exact ih2
        · rw [zy_b0, ← eg] at h3
          rw [if_neg (by rw [h3]; decide)] at ih2
          rw [nI_1]; exact ih2
  · rw [Int32.le_iff_toInt_le, e8] at h2
    rw [decide_eq_false (by omega)] at hq; exact hq
theorem zy_217 (hY : zx_lay Y) {P : Nat} (hP : P ≤ 10) (hp : I 132 3 = nI P) {f : Nat → Nat} (hn : ∀ p, p < P → I 134 p = nI (f p) ∧ f p < 5764801) {k : Int32}
    (hq : if decide (0 ≤ k.toInt ∧ k.toInt ≤ 8) then Q (nI (zy_pi (fun i j => zy_cm (f i) (f j) k) P P).1) (zy_ent (zx_u2 I 132 0 0) (zy_pi (fun i j => zy_cm (f i) (f j) k) P P).2, L, Y) else Q (-1) (zx_u2 I 132 0 0, L, Y)) : zx_Ci l E (d + 4) 217 [.ref 132, .int k] (I, L, Y) Q := by
  refine sg_217_0 hY _ (zy_167i hY (b := decide (0 ≤ k.toInt ∧ k.toInt ≤ 8)) rfl ⟨hY, fun h1 => ?_, fun h1 => ⟨_, rfl, ?_⟩⟩)
  · rw [zy_b1] at h1
    rw [h1] at hq
    generalize hg : (fun i j => zy_cm (f i) (f j) k) = g at hq
    have bnd : ∀ i, i ≤ 10 → P * i ≤ 100 := fun i hi => Nat.le_trans (Nat.mul_le_mul hP hi) (by omega)
    have hp' : ∀ vs, zy_ent (zx_u2 I 132 0 0) vs 132 3 = nI P := fun vs => by rw [zy_ent_el (by omega), zy_u2_nk (by omega)]; exact hp
    have hn' : ∀ vs p, zy_ent (zx_u2 I 132 0 0) vs 134 p = I 134 p := fun vs p => by rw [zy_ent_el (by omega), zy_u2_na (by omega)]
    have hst : zx_To l E (d + 4) 217 28 [some (.ref 132), some (.int k), some (.int 0), some (.int 0), none] [] (zy_ent (zx_u2 I 132 0 0) [], L, Y) (fun r M' => ∃ v, r = some (.int v) ∧ Q v M') := ?_
    · rw [← zy_ent_nil] at hst; exact hst
    refine zy_down (n := P) (P := fun i => zx_To l E (d + 4) 217 28 [some (.ref 132), some (.int k), some (.int (nI (zy_pi g P i).1)), some (.int (nI i)), none] [] (zy_ent (zx_u2 I 132 0 0) (zy_pi g P i).2, L, Y) (fun r M' => ∃ v, r = some (.int v) ∧ Q v M')) ?_ (fun i hi ih => ?_)
    · refine sg_217_28 hY _ _ _ ⟨fun _ => ⟨_, rfl, hq⟩, fun h3 => absurd ?_ h3⟩
      rw [hp']; exact (nI_leI (by omega) (by omega)).mpr (Nat.le_refl _)
    · refine sg_217_28 hY _ _ _ ⟨fun h3 => ?_, fun _ => ?_⟩
      · rw [hp', nI_leI (by omega) (by omega)] at h3; omega
      rw [nI_1]
      refine zy_down (n := P - (i + 1)) (P := fun m => zx_To l E (d + 4) 217 41 [some (.ref 132), some (.int k), some (.int (nI (zy_pj g i (zy_pi g P i) m).1)), some (.int (nI i)), some (.int (nI (i + 1 + m)))] [] (zy_ent (zx_u2 I 132 0 0) (zy_pj g i (zy_pi g P i) m).2, L, Y) (fun r M' => ∃ v, r = some (.int v) ∧ Q v M')) ?_ (fun m hm ih2 => ?_)
      · refine sg_217_41 hY _ _ _ _ ⟨fun _ => ?_, fun h3 => absurd ?_ h3⟩
        · rw [nI_1]; exact ih
        · rw [hp']; exact (nI_leI (by omega) (by omega)).mpr (by omega)
      · have hok := zy_pj_ok (g := g) (i := i) (zy_pi_ok (g := g) (P := P) i) m
        have hb := bnd i (by omega)
        have hst : zy_pj g i (zy_pi g P i) (m + 1) = zy_ps g i (i + 1 + m) (zy_pj g i (zy_pi g P i) m) := rfl
        obtain ⟨k1, k2, k3⟩ := hok
        generalize zy_pj g i (zy_pi g P i) m = t at *
        refine sg_217_41 hY _ _ _ _ ⟨fun h3 => ?_, fun _ => ⟨vp_in_nI (by omega) (by omega), vp_in_nI (by omega) (by omega), ?_⟩⟩
        · rw [hp', nI_leI (by omega) (by omega)] at h3; omega
        rw [nI_clamp (by omega), nI_clamp (by omega), hn', hn', (hn i (by omega)).1, (hn (i + 1 + m) (by omega)).1]
        have eg : g i (i + 1 + m) = zy_cm (f i) (f (i + 1 + m)) k := by rw [← hg]
        rw [hst] at ih2
        unfold zy_ps at ih2
        refine zy_216 hY (hn i (by omega)).2 (hn _ (by omega)).2 ⟨hY, fun h3 => ?_, fun h3 => ⟨fun h4 => ?_, fun h4 => ?_⟩⟩
        · rw [zy_b0, ← eg] at h3
          rw [if_neg (by rw [h3]; decide)] at ih2
          rw [nI_1]; exact ih2
        · rw [zy_b1, ← eg] at h3
          rw [zy_eq0 (by omega)] at h4
          rw [if_pos h3, if_neg h4] at ih2
          rw [nI_1, nI_1]; exact ih2
        · rw [zy_b1, ← eg] at h3
          rw [zy_eq0 (by omega)] at h4
          rw [if_pos h3, if_pos h4] at ih2
          rw [k2 h4]
          refine zy_170 hY (by simp) ⟨hY, zy_170 hY (by simp) ⟨hY, ?_⟩⟩
          rw [nI_1, nI_1]; exact ih2
  · rw [zy_b0] at h1; rw [h1] at hq; exact hq
theorem zj_pairs (hY : zx_lay Y) {P S b r : Nat} {H : List (Nat × Nat)} {vs : List Int32} (hC : zc_C I P S b r H) (hR : zc_R I vs) {x : Int32}
    (hq : ∀ (v : Int32) (I' : Nat → Nat → Int32) (vs' : List Int32), zc_R I' vs' → zy_fr zw_R I I' → Q v (I', L, Y)) :
    zx_Ci l E (d + 4) 134 [.ref 3, .int x] (I, L, Y) (fun v M1 => zx_lay M1.2.2 ∧ zx_Ci l E (d + 4) 217 [.ref 132, .int x] M1 (fun w M2 => w = v ∧ Q v M2)) := by
  obtain ⟨f, n1, n2, n3, n4⟩ := zc_nm hC
  obtain ⟨⟨hP, h7, h3⟩, -⟩ := hC
  refine zy_134 hY hP h7 n1 ?_
  have hlen : (zy_pi (fun i j => zy_cm (f i) (f j) x) P P).2.length ≤ 12 := Nat.le_trans (zy_pi_ok P).2.2 (by omega)
  split
  · rename_i h1
    refine ⟨hY, zy_217 hY hP (by rw [zy_tell_el (by omega)]; exact h3) (f := f) (fun p hp => by rw [zy_tell_el (by omega)]; exact n2 p hp) ?_⟩
    rw [if_pos h1]
    refine ⟨rfl, hq _ _ _ (zc_R_tell (I := I) hlen (fun a k hk => zy_u2_ne (by omega))) (zy_ent_fr (zy_fr_u2 (zy_tell_fr (zy_fr_rf _ _) hlen) zw_R_0) hlen)⟩
  · rename_i h1
    refine ⟨hY, zy_217 hY hP h3 n2 ?_⟩
    rw [if_neg h1]
    refine ⟨rfl, hq _ _ vs (zc_R_cong hR (zy_fr_on (W := [(132, 0, 1)]) (zy_fr_u2 (zy_fr_rf _ _) (zy_in_at 0 132 0 1 0 rfl (by omega) (by omega))) (by decide))) (zy_fr_u2 (zy_fr_rf _ _) zw_R_0)⟩
end YPa
