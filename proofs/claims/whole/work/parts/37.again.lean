/-! ===== keep, again ===== -/
section YKq
variable {l : Launch} {E : zx_E} {d : Nat} {I : Nat → Nat → Int32} {L : Nat → Nat → Int64} {Y : zx_Y} {Qo : Option Value → zx_M → Prop} {Q : Int32 → zx_M → Prop} {Qv : zx_M → Prop}
theorem zy_ur_at {α : Type} {f : Nat → Nat → α} {i a k : Nat} {g : Nat → α} : zx_ur f i g a k = if a = i then g k else f a k := by
  unfold zx_ur; split <;> rfl
theorem zy_20 (hY : zx_lay Y) {i : Nat} (hi : i < 3) (hq : Q 1 (zy_kp I i, L, Y)) : zx_Ci l E (d + 1) 20 [.ref 120, .int (nI i), .ref 8] (I, L, Y) Q := by
  obtain ⟨r1, r2⟩ := zy_k121 hY hi
  have hv := vp_in_nI (n := i) (N := 3) hi (by omega)
  refine sg_20_0 hY _ ⟨fun h => absurd h (nI_pos (by omega)), fun _ => ⟨fun _ => ⟨hv, 122 + i, ?_, ?_, ?_, hv, 126 + i, ?_, ?_, ?_, hv, hv, hv, _, rfl, ?_⟩, fun h => absurd ((nI_ltI (b := 3) (by omega) (by omega)).mpr hi) h⟩⟩
  · rw [nI_clamp (by omega)]; exact r1
  · exact (zy_kcell hY hi _).1.1
  · exact (zy_kcell hY hi _).1.2
  · rw [nI_clamp (by omega)]; exact r2
  · exact (zy_kcell hY hi _).2.1
  · exact (zy_kcell hY hi _).2.2
  · rw [nI_clamp (by omega)]
    refine (congrArg (fun J => Q 1 (J, L, Y)) ?_).mp hq
    funext a k
    simp only [zx_u2, zy_ur_at, zy_cpy0, zy_kp]
    repeat' split
    all_goals first | rfl | (exfalso; omega) | (subst_vars; rfl)
theorem zy_kp_el {i a k : Nat} (hi : i < 3) (h : a < 122 ∨ 131 < a) : zy_kp I i a k = I a k := by
  unfold zy_kp; rw [if_neg (by omega), if_neg (by omega), if_neg (by omega), if_neg (by omega), if_neg (by omega)]
/-- three blocks of p values each, from 31 i on -/
def zy_km (I : Nat → Nat → Int32) (w : Nat → Nat → Int32) (i p : Nat) : Nat → Nat → Int32 := fun a k => if a = 158 ∧ 31 * i ≤ k ∧ k < 31 * i + 30 ∧ (k - 31 * i) % 10 < p then w ((k - 31 * i) / 10) ((k - 31 * i) % 10) else I a k
theorem zy_km_s {w : Nat → Nat → Int32} {i p : Nat} (hp : p < 10) : zx_u2 (zx_u2 (zx_u2 (zy_km I w i p) 158 (31 * i + p) (w 0 p)) 158 (31 * i + 10 + p) (w 1 p)) 158 (31 * i + 20 + p) (w 2 p) = zy_km I w i (p + 1) := by
  funext a k
  unfold zx_u2 zy_km
  by_cases q1 : a = 158 ∧ k = 31 * i + 20 + p
  · rw [if_pos q1, if_pos ⟨q1.1, by omega, by omega, by omega⟩, show (k - 31 * i) / 10 = 2 by omega, show (k - 31 * i) % 10 = p by omega]
  · rw [if_neg q1]
    by_cases q2 : a = 158 ∧ k = 31 * i + 10 + p
    · rw [if_pos q2, if_pos ⟨q2.1, by omega, by omega, by omega⟩, show (k - 31 * i) / 10 = 1 by omega, show (k - 31 * i) % 10 = p by omega]
    · rw [if_neg q2]
      by_cases q3 : a = 158 ∧ k = 31 * i + p
      · rw [if_pos q3, if_pos ⟨q3.1, by omega, by omega, by omega⟩, show (k - 31 * i) / 10 = 0 by omega, show (k - 31 * i) % 10 = p by omega]
      · rw [if_neg q3]
        by_cases q4 : a = 158 ∧ 31 * i ≤ k ∧ k < 31 * i + 30 ∧ (k - 31 * i) % 10 < p
        · rw [if_pos q4, if_pos ⟨q4.1, q4.2.1, q4.2.2.1, by omega⟩]
        · rw [if_neg q4, if_neg (by omega)]
def zy_kw (I : Nat → Nat → Int32) (P : Nat) : Nat → Nat → Int32 := fun B p => if p < P then I (134 + B) p else 0
theorem zy_258 (hY : zx_lay Y) {P : Nat} (hP : P ≤ 10) (h3 : I 132 3 = nI P) {x : Int32} (hq : ∀ i : Nat, i < 3 → x = nI i → Q 1 (zx_u2 (zy_km (zx_u2 (zx_u2 I 132 0 0) 157 i 1) (zy_kw I P) i 10) 158 (31 * i + 30) (I 132 9), L, Y)) (hq2 : (∀ i : Nat, i < 3 → x ≠ nI i) → Q 0 (zx_u2 I 132 0 0, L, Y)) : zx_Ci l E (d + 1) 258 [.ref 132, .int x] (I, L, Y) Q := by
  refine sg_258_0 hY _ (zy_167i hY (b := decide (0 ≤ x.toInt ∧ x.toInt ≤ 2)) rfl ⟨hY, fun h1 => ?_, fun h1 => ?_⟩)
  · rw [zy_b1, decide_eq_true_eq] at h1
    obtain ⟨i, hi, rfl⟩ : ∃ i : Nat, i < 3 ∧ x = nI i := ⟨x.toInt.toNat, by omega, by apply Int32.toInt_inj.mp; rw [nI_toInt (by omega)]; omega⟩
    have hq := hq i hi rfl
    refine ⟨vp_in_nI hi (by omega), ?_⟩
    have e31 : (31 : Int32) * nI i = nI (31 * i) := pk_mul 31 i
    rw [nI_clamp (by omega), e31]
    generalize hJ : zx_u2 (zx_u2 I 132 0 0) 157 i 1 = J at hq
    have j3 : ∀ p, zy_km J (zy_kw I P) i p 132 3 = nI P := fun p => by unfold zy_km; rw [if_neg (by omega), ← hJ, zy_u2_ne (by omega), zy_u2_ne (by omega)]; exact h3
    have jb : ∀ B p q, B < 3 → zy_km J (zy_kw I P) i q (134 + B) p = I (134 + B) p := fun B p q hB => by unfold zy_km; rw [if_neg (by omega), ← hJ, zy_u2_ne (by omega), zy_u2_ne (by omega)]
    have goal : zx_To l E (d + 1) 258 33 [some (.ref 132), none, some (.int (nI (31 * i))), some (.int (nI 0))] [] (zy_km J (zy_kw I P) i 0, L, Y) (fun r M' => ∃ v, r = some (.int v) ∧ Q v M') := by
      refine zy_down (n := 10) (P := fun p => zx_To l E (d + 1) 258 33 [some (.ref 132), none, some (.int (nI (31 * i))), some (.int (nI p))] [] (zy_km J (zy_kw I P) i p, L, Y) (fun r M' => ∃ v, r = some (.int v) ∧ Q v M')) ?_ (fun p hp ih => ?_)
      · have e30 : nI (31 * i) + 30 = nI (31 * i + 30) := nI_add _ 30
        refine sg_258_33 hY _ _ ⟨fun _ => ⟨?_, _, rfl, ?_⟩, fun h => absurd ((zy_10 (by omega)).mpr (Nat.le_refl _)) h⟩
        · rw [e30]; exact vp_in_nI (by omega) (by omega)
        · have e9 : zy_km J (zy_kw I P) i 10 132 9 = I 132 9 := by unfold zy_km; rw [if_neg (by omega), ← hJ, zy_u2_ne (by omega), zy_u2_ne (by omega)]
          rw [e30, nI_clamp (by omega), e9]; exact hq
      · have a0 : nI (31 * i) + nI p = nI (31 * i + p) := nI_add _ _
        have a1 : nI (31 * i) + 10 + nI p = nI (31 * i + 10 + p) := by rw [← nI_add, ← nI_add]; rfl
        have a2 : nI (31 * i) + 20 + nI p = nI (31 * i + 20 + p) := by rw [← nI_add, ← nI_add]; rfl
        have st : ∀ K1 K2 K3 : Int32, K1 = zy_kw I P 0 p → K2 = zy_kw I P 1 p → K3 = zy_kw I P 2 p → zx_To l E (d + 1) 258 33 [some (.ref 132), none, some (.int (nI (31 * i))), some (.int (nI p + 1))] [] (zx_u2 (zx_u2 (zx_u2 (zy_km J (zy_kw I P) i p) 158 (31 * i + p) K1) 158 (31 * i + 10 + p) K2) 158 (31 * i + 20 + p) K3, L, Y) (fun r M' => ∃ v, r = some (.int v) ∧ Q v M') := fun K1 K2 K3 k1 k2 k3 => by
          rw [k1, k2, k3, zy_km_s hp, nI_1]; exact ih
        have f3 : ∀ K2 K1 K3 : Int32, K1 = zy_kw I P 0 p → K2 = zy_kw I P 1 p → K3 = zy_kw I P 2 p → zx_To l E (d + 1) 258 122 [some (.ref 132), none, some (.int (nI (31 * i))), some (.int (nI p))] [.int K3, .int (nI (31 * i) + 20 + nI p), .ref 158] (zx_u2 (zx_u2 (zy_km J (zy_kw I P) i p) 158 (31 * i + p) K1) 158 (31 * i + 10 + p) K2, L, Y) (fun r M' => ∃ v, r = some (.int v) ∧ Q v M') := fun K2 K1 K3 k1 k2 k3 => by
          refine sg_258_122 hY _ _ _ _ ⟨?_, ?_⟩
          · rw [a2]; exact vp_in_nI (by omega) (by omega)
          · rw [a2, nI_clamp (by omega)]; exact st K1 K2 K3 k1 k2 k3
        have f2 : ∀ K1 K2 : Int32, K1 = zy_kw I P 0 p → K2 = zy_kw I P 1 p → zx_To l E (d + 1) 258 93 [some (.ref 132), none, some (.int (nI (31 * i))), some (.int (nI p))] [.int K2, .int (nI (31 * i) + 10 + nI p), .ref 158] (zx_u2 (zy_km J (zy_kw I P) i p) 158 (31 * i + p) K1, L, Y) (fun r M' => ∃ v, r = some (.int v) ∧ Q v M') := fun K1 K2 k1 k2 => by
          have e3 : zx_u2 (zy_km J (zy_kw I P) i p) 158 (31 * i + p) K1 132 3 = nI P := by rw [zy_u2_ne (by omega)]; exact j3 p
          refine sg_258_93 hY _ _ _ _ ⟨?_, fun h => ?_, fun h => ⟨vp_in_nI hp (by omega), ?_⟩⟩
          · rw [a1]; exact vp_in_nI (by omega) (by omega)
          · rw [e3, nI_leI (by omega) (by omega)] at h
            rw [a1, nI_clamp (by omega)]
            exact f3 K2 K1 0 k1 k2 (by unfold zy_kw; rw [if_neg (by omega)])
          · rw [e3, nI_leI (by omega) (by omega)] at h
            rw [a1, nI_clamp (by omega), nI_clamp (by omega)]
            exact f3 K2 K1 _ k1 k2 (by unfold zy_kw; rw [if_pos (by omega), zy_u2_na (by omega)]; exact jb 2 p p (by omega))
        have f1 : ∀ K1 : Int32, K1 = zy_kw I P 0 p → zx_To l E (d + 1) 258 64 [some (.ref 132), none, some (.int (nI (31 * i))), some (.int (nI p))] [.int K1, .int (nI (31 * i) + nI p), .ref 158] (zy_km J (zy_kw I P) i p, L, Y) (fun r M' => ∃ v, r = some (.int v) ∧ Q v M') := fun K1 k1 => by
          refine sg_258_64 hY _ _ _ _ ⟨?_, fun h => ?_, fun h => ⟨vp_in_nI hp (by omega), ?_⟩⟩
          · rw [a0]; exact vp_in_nI (by omega) (by omega)
          · rw [j3, nI_leI (by omega) (by omega)] at h
            rw [a0, nI_clamp (by omega)]
            exact f2 K1 0 k1 (by unfold zy_kw; rw [if_neg (by omega)])
          · rw [j3, nI_leI (by omega) (by omega)] at h
            rw [a0, nI_clamp (by omega), nI_clamp (by omega)]
            exact f2 K1 _ k1 (by unfold zy_kw; rw [if_pos (by omega)]; exact jb 1 p p (by omega))
        refine sg_258_33 hY _ _ ⟨fun h => absurd ((zy_10 (by omega)).mp h) (by omega), fun _ => ⟨fun h => ?_, fun h => ⟨vp_in_nI hp (by omega), ?_⟩⟩⟩
        · rw [j3, nI_leI (by omega) (by omega)] at h
          exact f1 0 (by unfold zy_kw; rw [if_neg (by omega)])
        · rw [j3, nI_leI (by omega) (by omega)] at h
          rw [nI_clamp (by omega)]
          exact f1 _ (by unfold zy_kw; rw [if_pos (by omega)]; exact jb 0 p p (by omega))
    have e : zy_km J (zy_kw I P) i 0 = J := by funext a k; unfold zy_km; rw [if_neg (by omega)]
    rw [e, ← hJ] at goal
    exact goal
  · rw [zy_b0, decide_eq_false_iff_not] at h1
    refine ⟨_, rfl, hq2 (fun i hi e => h1 ?_)⟩
    rw [e, nI_toInt (by omega)]; omega
def zw_K : List (Nat × Nat × Nat) := (132, 0, 1) :: zr_K
theorem zj_keep (hY : zx_lay Y) {P S b r : Nat} {H : List (Nat × Nat)} (hC : zc_C I P S b r H) (hN : zc_N I) (hK : zc_K I P) {x : Int32}
    (hq : ∀ v I', zc_K I' P → zy_fr zw_K I I' → Q v (I', L, Y)) :
    zx_Ci l E (d + 2) 151 [.ref 3, .int x] (I, L, Y) (fun v M1 => zx_lay M1.2.2 ∧ zx_Ci l E (d + 2) 258 [.ref 132, .int x] M1 (fun w M2 => w = v ∧ Q v M2)) := by
  obtain ⟨⟨hP, h7, h3⟩, his, hn, hz, ⟨hS, h8⟩, -⟩ := hC
  by_cases hx : ∃ i : Nat, i < 3 ∧ x = nI i
  · obtain ⟨i, hi, rfl⟩ := hx
    refine sg_151_0 hY _ (zy_20 hY hi ⟨hY, Or.inr rfl, _, rfl, hY, ?_⟩)
    refine zy_258 (I := zy_kp I i) hY hP (by rw [zy_kp_el hi (by omega)]; exact h3) (fun j hj e => ?_) (fun h => absurd rfl (h i hi))
    rw [nI_eq (by omega) (by omega)] at e
    subst e
    refine ⟨rfl, hq _ _ (fun j hj => ?_) ?_⟩
    · by_cases e : j = i
      · subst e
        right
        have el : ∀ a k, a ≠ 158 → a ≠ 157 → ¬ (a = 132 ∧ k = 0) → zx_u2 (zy_km (zx_u2 (zx_u2 (zy_kp I j) 132 0 0) 157 j 1) (zy_kw (zy_kp I j) P) j 10) 158 (31 * j + 30) (zy_kp I j 132 9) a k = zy_kp I j a k := fun a k a1 a2 a3 => by
          rw [zy_u2_na a1]; unfold zy_km; rw [if_neg (fun z => a1 z.1), zy_u2_na a2, zy_u2_ne a3]
        have blk : ∀ B p, B < 3 → p < 10 → zx_u2 (zy_km (zx_u2 (zx_u2 (zy_kp I j) 132 0 0) 157 j 1) (zy_kw (zy_kp I j) P) j 10) 158 (31 * j + 30) (zy_kp I j 132 9) 158 (31 * j + 10 * B + p) = if p < P then I (134 + B) p else 0 := fun B p hB hp => by
          rw [zy_u2_nk (by omega)]; unfold zy_km
          rw [if_pos ⟨rfl, by omega, by omega, by omega⟩, show (31 * j + 10 * B + p - 31 * j) / 10 = B by omega, show (31 * j + 10 * B + p - 31 * j) % 10 = p by omega]
          unfold zy_kw; rw [zy_kp_el hj (by omega)]
        have kp9 : ∀ p, p < 10 → zy_kp I j (122 + j) p = I 9 p := fun p hp => by unfold zy_kp; rw [if_neg (by omega), if_neg (by omega), if_neg (by omega), if_neg (by omega), if_pos ⟨rfl, hp⟩]
        have kp10 : ∀ p, p < 10 → zy_kp I j (126 + j) p = I 10 p := fun p hp => by unfold zy_kp; rw [if_neg (by omega), if_neg (by omega), if_neg (by omega), if_pos ⟨rfl, hp⟩]
        refine ⟨?_, ?_, fun p hp => ⟨?_, ?_, ?_, fun hp2 => ⟨?_, ?_⟩⟩, ⟨S, hS, ?_, fun p hp => ?_⟩, ?_⟩
        · rw [el 131 j (by omega) (by omega) (by omega)]; unfold zy_kp; rw [if_pos ⟨rfl, rfl⟩]
        · rw [zy_u2_na (by omega)]; unfold zy_km; rw [if_neg (by omega), zy_u2_self]
        · rw [el _ p (by omega) (by omega) (by omega), kp9 p hp]; exact his p hp
        · rw [el (122 + j) p (by omega) (by omega) (by omega), kp9 p hp]
          rw [show 31 * j + p = 31 * j + 10 * 0 + p by omega, blk 0 p (by omega) hp]
          split
          · rename_i z; exact (hn p z).1
          · rename_i z; exact ((hz p (by omega) hp).1).symm
        · rw [el (126 + j) p (by omega) (by omega) (by omega), kp10 p hp]
          rw [show 31 * j + 10 + p = 31 * j + 10 * 1 + p by omega, blk 1 p (by omega) hp]
          split
          · rename_i z; exact (hn p z).2.1
          · rename_i z; exact ((hz p (by omega) hp).2).symm
        · rw [el _ p (by omega) (by omega) (by omega), kp9 p hp]; exact (hz p hp2 hp).1
        · rw [el _ p (by omega) (by omega) (by omega), kp10 p hp]; exact (hz p hp2 hp).2
        · rw [el 129 j (by omega) (by omega) (by omega)]; unfold zy_kp; rw [if_neg (by omega), if_neg (by omega), if_pos ⟨rfl, rfl⟩]; exact h8
        · have := blk 2 p (by omega) hp
          rw [this]
          split
          · rename_i z; exact (hn p z).2.2
          · rename_i z
            rw [Nat.testBit_lt_two_pow (Nat.lt_of_lt_of_le hS (Nat.pow_le_pow_right (by omega) (by omega)))]; rfl
        · rw [zy_u2_self, el 130 j (by omega) (by omega) (by omega), zy_kp_el hj (by omega)]
          unfold zy_kp; rw [if_neg (by omega), if_pos ⟨rfl, rfl⟩]; exact hN
      · refine zc_Ki_cong hj (hK j hj) (fun p hp => ⟨?_, ?_⟩) ⟨?_, ?_, ?_, ?_⟩ (fun k h1 h2 => ?_)
        · rw [zy_u2_ne (by omega)]; unfold zy_km; rw [if_neg (by omega), zy_u2_ne (by omega), zy_u2_ne (by omega)]
          unfold zy_kp; rw [if_neg (by omega), if_neg (by omega), if_neg (by omega), if_neg (by omega), if_neg (by omega)]
        · rw [zy_u2_ne (by omega)]; unfold zy_km; rw [if_neg (by omega), zy_u2_ne (by omega), zy_u2_ne (by omega)]
          unfold zy_kp; rw [if_neg (by omega), if_neg (by omega), if_neg (by omega), if_neg (by omega), if_neg (by omega)]
        · rw [zy_u2_ne (by omega)]; unfold zy_km; rw [if_neg (by omega), zy_u2_ne (by omega), zy_u2_ne (by omega)]
          unfold zy_kp; rw [if_neg (by omega), if_neg (by omega), if_neg (by omega), if_neg (by omega), if_neg (by omega)]
        · rw [zy_u2_ne (by omega)]; unfold zy_km; rw [if_neg (by omega), zy_u2_ne (by omega), zy_u2_ne (by omega)]
          unfold zy_kp; rw [if_neg (by omega), if_neg (by omega), if_neg (by omega), if_neg (by omega), if_neg (by omega)]
        · rw [zy_u2_ne (by omega)]; unfold zy_km; rw [if_neg (by omega), zy_u2_ne (by omega), zy_u2_ne (by omega)]
          unfold zy_kp; rw [if_neg (by omega), if_neg (by omega), if_neg (by omega), if_neg (by omega), if_neg (by omega)]
        · rw [zy_u2_ne (by omega)]; unfold zy_km; rw [if_neg (by omega), zy_u2_ne (by omega), zy_u2_ne (by omega), zy_kp_el (by omega) (by omega)]
        · rw [zy_u2_ne (by omega)]; unfold zy_km; rw [if_neg (by omega), zy_u2_ne (by omega), zy_u2_ne (by omega), zy_kp_el (by omega) (by omega)]
    · intro a k hk
      have g : ∀ j a' lo hi, zw_K[j]? = some (a', lo, hi) → ¬ (a = a' ∧ lo ≤ k ∧ k < hi) := fun j a' lo hi h q => hk (by rw [q.1]; exact zy_in_at j a' lo hi k h q.2.1 q.2.2)
      have g0 := g 0 132 0 1 rfl
      have g1 := g 1 122 0 10 rfl
      have g2 := g 2 123 0 10 rfl
      have g3 := g 3 124 0 10 rfl
      have g4 := g 4 126 0 10 rfl
      have g5 := g 5 127 0 10 rfl
      have g6 := g 6 128 0 10 rfl
      have g7 := g 7 129 0 3 rfl
      have g8 := g 8 130 0 3 rfl
      have g9 := g 9 131 0 3 rfl
      have g10 := g 10 157 0 3 rfl
      have g11 := g 11 158 0 93 rfl
      rw [zy_u2_ne (by omega)]; unfold zy_km; rw [if_neg (by omega), zy_u2_ne (by omega), zy_u2_ne (by omega)]
      unfold zy_kp; rw [if_neg (by omega), if_neg (by omega), if_neg (by omega), if_neg (by omega), if_neg (by omega)]
  · have hx' : ∀ i : Nat, i < 3 → x ≠ nI i := fun i hi e => hx ⟨i, hi, e⟩
    have model : zx_Ci l E (d + 2) 258 [.ref 132, .int x] (I, L, Y) (fun w M2 => w = 0 ∧ Q 0 M2) :=
      zy_258 hY hP h3 (fun i hi e => absurd e (hx' i hi)) (fun _ => ⟨rfl, hq _ _ (zc_K_cong hK (zy_fr_on zy_thr_fr (by decide))) (zy_fr_mono zy_thr_fr (by decide))⟩)
    refine sg_151_0 hY _ (sg_20_0 hY _ ⟨fun _ => ⟨_, rfl, hY, Or.inl rfl, _, rfl, hY, model⟩, fun h1 => ⟨fun h2 => ?_, fun _ => ⟨_, rfl, hY, Or.inl rfl, _, rfl, hY, model⟩⟩⟩)
    obtain ⟨i, hi, e⟩ := zy_n3 h1 h2
    exact absurd e (hx' i hi)
/-- what restore leaves -/
def zy_rs (I : Nat → Nat → Int32) (i : Nat) : Nat → Nat → Int32 := fun a k => if a = 8 ∧ k = 5 then 0 else if a = 8 ∧ k = 10 then I 130 i else if a = 8 ∧ k = 8 then I 129 i else if a = 10 ∧ k < 10 then I (126 + i) k else if a = 9 ∧ k < 10 then I (122 + i) k else I a k
theorem zy_21 (hY : zx_lay Y) {i : Nat} (hi : i < 3) (hk : ¬ I 131 i = 0) (hq : Q 1 (zy_rs I i, L, Y)) : zx_Ci l E (d + 1) 21 [.ref 120, .int (nI i), .ref 8] (I, L, Y) Q := by
  obtain ⟨r1, r2⟩ := zy_k121 hY hi
  have hv := vp_in_nI (n := i) (N := 3) hi (by omega)
  refine sg_21_0 hY _ ⟨fun h => absurd h (nI_pos (by omega)), fun _ => ⟨fun h => absurd ((nI_leI (a := 3) (by omega) (by omega)).mp h) (by omega), fun _ => ⟨hv, fun _ => ⟨hv, 122 + i, ?_, ?_, ?_, hv, 126 + i, ?_, ?_, ?_, hv, hv, zy_c11 hY ⟨hY, _, rfl, ?_⟩⟩, fun h => ?_⟩⟩⟩
  · rw [nI_clamp (by omega)]; exact r1
  · exact (zy_kcell hY hi _).1.1
  · exact (zy_kcell hY hi _).1.2
  · rw [nI_clamp (by omega)]; exact r2
  · exact (zy_kcell hY hi _).2.1
  · exact (zy_kcell hY hi _).2.2
  · refine (congrArg (fun J => Q 1 (J, L, Y)) ?_).mp hq
    rw [nI_clamp (by omega)]
    funext a k
    simp only [zx_u2, zy_ur_at, zy_cpy0, zy_rs]
    repeat' split
    all_goals first | rfl | (exfalso; omega) | (subst_vars; rfl)
  · rw [nI_clamp (by omega)] at h; exact absurd h hk
def zy_ma (I : Nat → Nat → Int32) (i p : Nat) : Nat → Nat → Int32 := fun a k => if 134 ≤ a ∧ a < 137 ∧ k < p then I 158 (31 * i + 10 * (a - 134) + k) else I a k
theorem zy_ma_s {i p : Nat} : zx_u2 (zx_u2 (zx_u2 (zy_ma I i p) 134 p (I 158 (31 * i + p))) 135 p (I 158 (31 * i + 10 + p))) 136 p (I 158 (31 * i + 20 + p)) = zy_ma I i (p + 1) := by
  funext a k
  unfold zx_u2 zy_ma
  by_cases q1 : a = 136 ∧ k = p
  · rw [if_pos q1, if_pos (by omega), show 31 * i + 10 * (a - 134) + k = 31 * i + 20 + p by omega]
  · rw [if_neg q1]
    by_cases q2 : a = 135 ∧ k = p
    · rw [if_pos q2, if_pos (by omega), show 31 * i + 10 * (a - 134) + k = 31 * i + 10 + p by omega]
    · rw [if_neg q2]
      by_cases q3 : a = 134 ∧ k = p
      · rw [if_pos q3, if_pos (by omega), show 31 * i + 10 * (a - 134) + k = 31 * i + p by omega]
      · rw [if_neg q3]
        by_cases q4 : 134 ≤ a ∧ a < 137 ∧ k < p
        · rw [if_pos q4, if_pos (by omega)]
        · rw [if_neg q4, if_neg (by omega)]
theorem zy_259 (hY : zx_lay Y) {P : Nat} (hP : P ≤ 10) (h3 : I 132 3 = nI P) {x : Int32} (hq : ∀ i : Nat, i < 3 → x = nI i → ¬ I 157 i = 0 → Q 1 (zx_u2 (zx_u2 (zy_ma (zx_u2 I 132 0 0) i P) 132 9 (I 158 (31 * i + 30))) 132 10 0, L, Y)) (hq2 : (∀ i : Nat, i < 3 → x = nI i → I 157 i = 0) → Q 0 (zx_u2 I 132 0 0, L, Y)) : zx_Ci l E (d + 1) 259 [.ref 132, .int x] (I, L, Y) Q := by
  refine sg_259_0 hY _ (zy_167i hY (b := decide (0 ≤ x.toInt ∧ x.toInt ≤ 2)) rfl ⟨hY, fun h1 => ?_, fun h1 => ?_⟩)
  · rw [zy_b0, decide_eq_false_iff_not] at h1
    refine ⟨_, rfl, hq2 (fun i hi e => absurd ?_ h1)⟩
    rw [e, nI_toInt (by omega)]; omega
  · rw [zy_b1, decide_eq_true_eq] at h1
    obtain ⟨i, hi, rfl⟩ : ∃ i : Nat, i < 3 ∧ x = nI i := ⟨x.toInt.toNat, by omega, by apply Int32.toInt_inj.mp; rw [nI_toInt (by omega)]; omega⟩
    refine ⟨vp_in_nI hi (by omega), fun h2 => ?_, fun h2 => ?_⟩
    · rw [nI_clamp (by omega)] at h2
      have hq := hq i hi rfl h2
      have e31 : (31 : Int32) * nI i = nI (31 * i) := pk_mul 31 i
      rw [e31]
      have goal : zx_To l E (d + 1) 259 35 [some (.ref 132), none, some (.int (nI (31 * i))), some (.int (nI 0))] [] (zy_ma (zx_u2 I 132 0 0) i 0, L, Y) (fun r M' => ∃ v, r = some (.int v) ∧ Q v M') := by
        refine zy_down (n := P) (P := fun p => zx_To l E (d + 1) 259 35 [some (.ref 132), none, some (.int (nI (31 * i))), some (.int (nI p))] [] (zy_ma (zx_u2 I 132 0 0) i p, L, Y) (fun r M' => ∃ v, r = some (.int v) ∧ Q v M')) ?_ (fun p hp ih => ?_)
        · have e30 : nI (31 * i) + 30 = nI (31 * i + 30) := nI_add _ 30
          have e3 : zy_ma (zx_u2 I 132 0 0) i P 132 3 = nI P := by unfold zy_ma; rw [if_neg (by omega)]; exact h3
          have e8 : zy_ma (zx_u2 I 132 0 0) i P 158 (31 * i + 30) = I 158 (31 * i + 30) := by unfold zy_ma; rw [if_neg (by omega), zy_u2_ne (by omega)]
          refine sg_259_35 hY _ _ ⟨fun _ => ⟨?_, _, rfl, ?_⟩, fun h => absurd ?_ h⟩
          · rw [e30]; exact vp_in_nI (by omega) (by omega)
          · rw [e30, nI_clamp (by omega), e8]; exact hq
          · rw [e3]; exact (nI_leI (by omega) (by omega)).mpr (Nat.le_refl _)
        · have e3 : zy_ma (zx_u2 I 132 0 0) i p 132 3 = nI P := by unfold zy_ma; rw [if_neg (by omega)]; exact h3
          have e8 : ∀ k, zy_ma (zx_u2 I 132 0 0) i p 158 k = zx_u2 I 132 0 0 158 k := fun k => by unfold zy_ma; rw [if_neg (by omega)]
          have a0 : nI (31 * i) + nI p = nI (31 * i + p) := nI_add _ _
          have a1 : nI (31 * i) + 10 + nI p = nI (31 * i + 10 + p) := by rw [← nI_add, ← nI_add]; rfl
          have a2 : nI (31 * i) + 20 + nI p = nI (31 * i + 20 + p) := by rw [← nI_add, ← nI_add]; rfl
          have hv := vp_in_nI (n := p) (N := 10) (by omega) (by omega)
          refine sg_259_35 hY _ _ ⟨fun h => ?_, fun _ => ?_⟩
          · rw [e3, nI_leI (by omega) (by omega)] at h; omega
          rw [a0, a1, a2, nI_clamp (by omega), nI_clamp (by omega), nI_clamp (by omega), nI_clamp (by omega), e8, e8, e8, zy_ma_s, nI_1]
          exact ⟨vp_in_nI (by omega) (by omega), hv, vp_in_nI (by omega) (by omega), hv, vp_in_nI (by omega) (by omega), hv, ih⟩
      have e : zy_ma (zx_u2 I 132 0 0) i 0 = zx_u2 I 132 0 0 := by funext a k; unfold zy_ma; rw [if_neg (by omega)]
      rw [e] at goal
      exact goal
    · rw [nI_clamp (by omega)] at h2
      refine ⟨_, rfl, hq2 (fun j hj e => ?_)⟩
      rw [nI_eq (by omega) (by omega)] at e
      subst e; exact h2
def zw_A : List (Nat × Nat × Nat) := [(8, 5, 6), (8, 8, 9), (8, 10, 11), (9, 0, 10), (10, 0, 10), (132, 0, 1), (132, 9, 11), (134, 0, 10), (135, 0, 10), (136, 0, 10)]
theorem zj_again (hY : zx_lay Y) {P S b r : Nat} {H : List (Nat × Nat)} (hC : zc_C I P S b r H) (hN : zc_N I) (hK : zc_K I P) {x : Int32}
    (hq : ∀ v I' S' H', zc_C I' P S' b r H' → zc_N I' → zy_fr zw_A I I' → Q v (I', L, Y)) :
    zx_Ci l E (d + 2) 152 [.ref 3, .int x] (I, L, Y) (fun v M1 => zx_lay M1.2.2 ∧ zx_Ci l E (d + 2) 259 [.ref 132, .int x] M1 (fun w M2 => w = v ∧ Q v M2)) := by
  have hC0 := hC
  obtain ⟨⟨hP, h7, h3⟩, his, hn, hz, ⟨hS, h8⟩, -⟩ := hC
  have no : (∀ i : Nat, i < 3 → x = nI i → I 131 i = 0) → zx_Ci l E (d + 2) 259 [.ref 132, .int x] (I, L, Y) (fun w M2 => w = 0 ∧ Q 0 M2) := fun hno => by
    refine zy_259 hY hP h3 (fun i hi e h => absurd ?_ h) (fun _ => ⟨rfl, hq _ _ S H (zc_C_cong hC0 (zy_fr_on zy_thr_fr (by decide))) (zc_N_cong hN (zy_fr_on zy_thr_fr (by decide))) (zy_fr_mono zy_thr_fr (by decide))⟩)
    have h1 := hno i hi e
    rcases hK i hi with k | k
    · exact k.2
    · rw [k.1] at h1; exact absurd h1 (by decide)
  by_cases hx : ∃ i : Nat, i < 3 ∧ x = nI i ∧ I 131 i ≠ 0
  · obtain ⟨i, hi, rfl, hk⟩ := hx
    refine sg_152_0 hY _ (zy_21 hY hi hk ⟨hY, Or.inr rfl, _, rfl, hY, ?_⟩)
    obtain ⟨k1, k2, k3, ⟨S', k4, k5, k6⟩, k7⟩ := (hK i hi).resolve_left (fun k => hk k.1)
    have el : ∀ a k, 122 ≤ a → zy_rs I i a k = I a k := fun a k ha => by unfold zy_rs; rw [if_neg (by omega), if_neg (by omega), if_neg (by omega), if_neg (by omega), if_neg (by omega)]
    refine zy_259 (I := zy_rs I i) hY hP (by rw [el _ _ (by omega)]; exact h3) (fun j hj e hh => ?_) (fun h => absurd (h i hi rfl) (by rw [el _ _ (by omega), k2]; decide))
    rw [nI_eq (by omega) (by omega)] at e
    subst e
    have n9 : ∀ p, p < 10 → zx_u2 (zx_u2 (zy_ma (zx_u2 (zy_rs I i) 132 0 0) i P) 132 9 (zy_rs I i 158 (31 * i + 30))) 132 10 0 9 p = I (122 + i) p := fun p hp => by
      rw [zy_u2_ne (by omega), zy_u2_ne (by omega)]; unfold zy_ma; rw [if_neg (by omega), zy_u2_ne (by omega)]
      unfold zy_rs; rw [if_neg (by omega), if_neg (by omega), if_neg (by omega), if_neg (by omega), if_pos ⟨rfl, hp⟩]
    have n10 : ∀ p, p < 10 → zx_u2 (zx_u2 (zy_ma (zx_u2 (zy_rs I i) 132 0 0) i P) 132 9 (zy_rs I i 158 (31 * i + 30))) 132 10 0 10 p = I (126 + i) p := fun p hp => by
      rw [zy_u2_ne (by omega), zy_u2_ne (by omega)]; unfold zy_ma; rw [if_neg (by omega), zy_u2_ne (by omega)]
      unfold zy_rs; rw [if_neg (by omega), if_neg (by omega), if_neg (by omega), if_pos ⟨rfl, hp⟩]
    have nm : ∀ B p, B < 3 → p < P → zx_u2 (zx_u2 (zy_ma (zx_u2 (zy_rs I i) 132 0 0) i P) 132 9 (zy_rs I i 158 (31 * i + 30))) 132 10 0 (134 + B) p = I 158 (31 * i + 10 * B + p) := fun B p hB hp => by
      rw [zy_u2_ne (by omega), zy_u2_ne (by omega)]; unfold zy_ma; rw [if_pos (by omega), zy_u2_ne (by omega), el _ _ (by omega), show 134 + B - 134 = B by omega]
    refine ⟨rfl, hq _ _ S' [] (zc_new hC0 (fun p hp => ?_) (fun p hp => ⟨?_, ?_, ?_⟩) (fun p hp1 hp2 => ⟨?_, ?_⟩) ⟨k4, ?_⟩ ?_ ?_ (fun a k hk => ?_)) ?_ ?_⟩
    · rw [n9 p hp]; exact (k3 p hp).1
    · rw [n9 p (by omega)]; have := nm 0 p (by omega) hp; rw [show 134 = 134 + 0 by omega, this]; exact (k3 p (by omega)).2.1
    · rw [n10 p (by omega)]; have := nm 1 p (by omega) hp; rw [show 135 = 134 + 1 by omega, this]; exact (k3 p (by omega)).2.2.1
    · have := nm 2 p (by omega) hp; rw [show 136 = 134 + 2 by omega, this]; exact k6 p (by omega)
    · rw [n9 p hp2]; exact ((k3 p hp2).2.2.2 hp1).1
    · rw [n10 p hp2]; exact ((k3 p hp2).2.2.2 hp1).2
    · rw [zy_u2_ne (by omega), zy_u2_ne (by omega)]; unfold zy_ma; rw [if_neg (by omega), zy_u2_ne (by omega)]
      unfold zy_rs; rw [if_neg (by omega), if_neg (by omega), if_pos (by omega)]; exact k5
    · rw [zy_u2_ne (by omega), zy_u2_ne (by omega)]; unfold zy_ma; rw [if_neg (by omega), zy_u2_ne (by omega)]
      unfold zy_rs; rw [if_pos (by omega)]
    · rw [zy_u2_self]
    · have hin : (a = 8 ∧ 6 ≤ k ∧ k < 8) ∨ (a = 8 ∧ 9 ≤ k ∧ k < 10) ∨ (a = 132 ∧ 3 ≤ k ∧ k < 4) ∨ (a = 132 ∧ 8 ≤ k ∧ k < 9) := by
        obtain ⟨w, hw, e1, e2, e3⟩ := hk
        simp only [List.mem_cons, List.not_mem_nil, or_false] at hw
        rcases hw with rfl | rfl | rfl | rfl <;> simp at e1 e2 e3 <;> omega
      rw [zy_u2_ne (by omega), zy_u2_ne (by omega)]; unfold zy_ma; rw [if_neg (by omega), zy_u2_ne (by omega)]
      unfold zy_rs; rw [if_neg (by omega), if_neg (by omega), if_neg (by omega), if_neg (by omega), if_neg (by omega)]
    · unfold zc_N
      rw [zy_u2_ne (by omega), zy_u2_self, el _ _ (by omega), zy_u2_ne (by omega), zy_u2_ne (by omega)]
      unfold zy_ma; rw [if_neg (by omega), zy_u2_ne (by omega)]
      unfold zy_rs; rw [if_neg (by omega), if_pos (by omega)]; exact k7
    · intro a k hk
      have g : ∀ j a' lo hi, zw_A[j]? = some (a', lo, hi) → ¬ (a = a' ∧ lo ≤ k ∧ k < hi) := fun j a' lo hi h q => hk (by rw [q.1]; exact zy_in_at j a' lo hi k h q.2.1 q.2.2)
      have g0 := g 0 8 5 6 rfl
      have g1 := g 1 8 8 9 rfl
      have g2 := g 2 8 10 11 rfl
      have g3 := g 3 9 0 10 rfl
      have g4 := g 4 10 0 10 rfl
      have g5 := g 5 132 0 1 rfl
      have g6 := g 6 132 9 11 rfl
      have g7 := g 7 134 0 10 rfl
      have g8 := g 8 135 0 10 rfl
      have g9 := g 9 136 0 10 rfl
      rw [zy_u2_ne (by omega), zy_u2_ne (by omega)]; unfold zy_ma; rw [if_neg (by omega), zy_u2_ne (by omega)]
      unfold zy_rs; rw [if_neg (by omega), if_neg (by omega), if_neg (by omega), if_neg (by omega), if_neg (by omega)]
  · have hno : ∀ i : Nat, i < 3 → x = nI i → I 131 i = 0 := fun i hi e => by
      by_cases z : I 131 i = 0
      · exact z
      · exact absurd ⟨i, hi, e, z⟩ hx
    refine sg_152_0 hY _ (sg_21_0 hY _ ⟨fun _ => ⟨_, rfl, hY, Or.inl rfl, _, rfl, hY, no hno⟩, fun h1 => ⟨fun _ => ⟨_, rfl, hY, Or.inl rfl, _, rfl, hY, no hno⟩, fun h2 => ?_⟩⟩)
    obtain ⟨i, hi, rfl⟩ := zy_n3 h1 (Int32.not_le.mp h2)
    refine ⟨vp_in_nI hi (by omega), fun h => ?_, fun _ => ⟨_, rfl, hY, Or.inl rfl, _, rfl, hY, no hno⟩⟩
    rw [nI_clamp (by omega)] at h
    exact absurd (hno i hi rfl) h
end YKq
