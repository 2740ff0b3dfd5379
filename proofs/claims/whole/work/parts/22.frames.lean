/-! ===== what a method may write: places (cell, from, to) ===== -/
def zy_in (W : List (Nat × Nat × Nat)) (a k : Nat) : Prop := ∃ w ∈ W, w.1 = a ∧ w.2.1 ≤ k ∧ k < w.2.2
def zy_fr (W : List (Nat × Nat × Nat)) (I I' : Nat → Nat → Int32) : Prop := ∀ a k, ¬ zy_in W a k → I' a k = I a k
def zy_dis (W R : List (Nat × Nat × Nat)) : Bool := W.all fun w => R.all fun r => !(Nat.beq w.1 r.1) || Nat.ble w.2.2 r.2.1 || Nat.ble r.2.2 w.2.1
theorem zy_dis_ok {W R : List (Nat × Nat × Nat)} (h : zy_dis W R = true) {a k : Nat} (hr : zy_in R a k) : ¬ zy_in W a k := by
  rintro ⟨w, hw, e1, e2, e3⟩
  obtain ⟨r, hr, f1, f2, f3⟩ := hr
  have h1 := List.all_eq_true.mp (List.all_eq_true.mp h w hw) r hr
  simp only [Bool.or_eq_true, Bool.not_eq_true'] at h1
  rcases h1 with (h1 | h1) | h1
  · rw [e1, f1, Nat.beq_refl] at h1; cases h1
  · have := Nat.le_of_ble_eq_true h1; omega
  · have := Nat.le_of_ble_eq_true h1; omega
theorem zy_fr_on {W R : List (Nat × Nat × Nat)} {I I' : Nat → Nat → Int32} (h : zy_fr W I I') (hd : zy_dis W R = true) : ∀ a k, zy_in R a k → I' a k = I a k := fun a k hk => h a k (zy_dis_ok hd hk)
theorem zy_fr_at {W : List (Nat × Nat × Nat)} {I I' : Nat → Nat → Int32} (h : zy_fr W I I') (a k : Nat) (hd : zy_dis W [(a, k, k + 1)] = true) : I' a k = I a k := zy_fr_on h hd a k ⟨_, List.mem_singleton.mpr rfl, rfl, Nat.le_refl _, Nat.lt_succ_self _⟩
theorem zy_fr_row {W : List (Nat × Nat × Nat)} {I I' : Nat → Nat → Int32} (h : zy_fr W I I') (a n : Nat) (hd : zy_dis W [(a, 0, n)] = true) {k : Nat} (hk : k < n) : I' a k = I a k := zy_fr_on h hd a k ⟨_, List.mem_singleton.mpr rfl, rfl, Nat.zero_le _, hk⟩
theorem zy_fr_rf (W : List (Nat × Nat × Nat)) (I : Nat → Nat → Int32) : zy_fr W I I := fun _ _ _ => rfl
theorem zy_fr_tr {W : List (Nat × Nat × Nat)} {I I1 I2 : Nat → Nat → Int32} (h1 : zy_fr W I I1) (h2 : zy_fr W I1 I2) : zy_fr W I I2 := fun a k hk => (h2 a k hk).trans (h1 a k hk)
def zy_subW (V W : List (Nat × Nat × Nat)) : Bool := V.all fun v => W.any fun w => Nat.beq v.1 w.1 && Nat.ble w.2.1 v.2.1 && Nat.ble v.2.2 w.2.2
theorem zy_fr_mono {V W : List (Nat × Nat × Nat)} {I I' : Nat → Nat → Int32} (h : zy_fr V I I') (hs : zy_subW V W = true) : zy_fr W I I' := fun a k hk => h a k (fun ⟨v, hv, e1, e2, e3⟩ => hk (by
  obtain ⟨w, hw, h1⟩ := List.any_eq_true.mp (List.all_eq_true.mp hs v hv)
  simp only [Bool.and_eq_true] at h1
  obtain ⟨⟨h1, h2⟩, h3⟩ := h1
  exact ⟨w, hw, (Nat.eq_of_beq_eq_true h1).symm.trans e1, Nat.le_trans (Nat.le_of_ble_eq_true h2) e2, Nat.lt_of_lt_of_le e3 (Nat.le_of_ble_eq_true h3)⟩))
/-- a write within what may be written -/
theorem zy_fr_u2 {W : List (Nat × Nat × Nat)} {I I' : Nat → Nat → Int32} {i k : Nat} {v : Int32} (h : zy_fr W I I') (hi : zy_in W i k) : zy_fr W I (zx_u2 I' i k v) := fun a b hab => by
  unfold zx_u2
  rw [if_neg (fun q => hab (by rw [q.1, q.2]; exact hi))]
  exact h a b hab
theorem zy_in_at {W : List (Nat × Nat × Nat)} (j a lo hi k : Nat) (h : W[j]? = some (a, lo, hi)) (h1 : lo ≤ k) (h2 : k < hi) : zy_in W a k := ⟨_, List.mem_of_getElem? h, rfl, h1, h2⟩
theorem zy_u2_self {α : Type} {f : Nat → Nat → α} {i k : Nat} {v : α} : zx_u2 f i k v i k = v := by unfold zx_u2; rw [if_pos ⟨rfl, rfl⟩]
theorem zy_u2_ne {α : Type} {f : Nat → Nat → α} {i k a b : Nat} {v : α} (h : ¬ (a = i ∧ b = k)) : zx_u2 f i k v a b = f a b := by unfold zx_u2; rw [if_neg h]
theorem zy_u2_nk {α : Type} {f : Nat → Nat → α} {i k a b : Nat} {v : α} (h : b ≠ k) : zx_u2 f i k v a b = f a b := zy_u2_ne (fun q => h q.2)
theorem zy_u2_na {α : Type} {f : Nat → Nat → α} {i k a b : Nat} {v : α} (h : a ≠ i) : zx_u2 f i k v a b = f a b := zy_u2_ne (fun q => h q.1)
/-! ===== the text ===== -/
def zr_T : List (Nat × Nat × Nat) := [(4, 1, 2), (5, 0, 80), (140, 0, 80), (132, 14, 15)]
/-- the text of n signs -/
def zc_T (I : Nat → Nat → Int32) (n : Nat) : Prop := n ≤ 80 ∧ I 4 1 = nI n ∧ I 132 14 = nI n ∧ ∀ j, j < n → I 5 j = I 140 j ∧ ∃ v : Nat, v < 256 ∧ I 5 j = nI v
theorem zc_T_cong {I I' : Nat → Nat → Int32} {n : Nat} (h : zc_T I n) (hf : ∀ a k, zy_in zr_T a k → I' a k = I a k) : zc_T I' n := by
  obtain ⟨h1, h2, h3, h4⟩ := h
  refine ⟨h1, ?_, ?_, fun j hj => ?_⟩
  · rw [hf 4 1 (zy_in_at 0 4 1 2 1 rfl (by omega) (by omega))]; exact h2
  · rw [hf 132 14 (zy_in_at 3 132 14 15 14 rfl (by omega) (by omega))]; exact h3
  · rw [hf 5 j (zy_in_at 1 5 0 80 j rfl (by omega) (by omega)), hf 140 j (zy_in_at 2 140 0 80 j rfl (by omega) (by omega))]; exact h4 j hj
/-- the byte of v that comes at place i -/
def zy_byte (v : Int32) (i : Nat) : Int32 := (v >>> ((24 - 8 * nI i) &&& 31)) &&& 255
theorem zy_byte_u (v : Int32) (i : Nat) (hi : i < 4) : ((v.toUInt32 >>> (((24 : Int32) - 8 * nI i).toUInt32 &&& Int32.toUInt32 31)).toInt32 &&& 255) = zy_byte v i := by
  unfold zy_byte
  have key : ∀ x : BitVec 32, ∀ s : Nat, s ≤ 24 → (x.sshiftRight s &&& 255#32) = (x >>> s &&& 255#32) := by
    intro x s hs
    apply BitVec.eq_of_getLsbD_eq
    intro j hj
    simp only [BitVec.getLsbD_and, BitVec.getLsbD_sshiftRight, BitVec.getLsbD_ushiftRight]
    by_cases h8 : j < 8
    · have h1 : s + j < 32 := by omega
      have h2 : ¬ 32 ≤ j := by omega
      simp [h1, h2]
    · have : (255#32).getLsbD j = false := by
        have : ∀ j, j < 32 → 8 ≤ j → (255#32).getLsbD j = false := by decide
        exact this j hj (by omega)
      simp [this]
  rcases (show i = 0 ∨ i = 1 ∨ i = 2 ∨ i = 3 by omega) with rfl | rfl | rfl | rfl
  all_goals apply Int32.toBitVec_inj.mp
  all_goals simp only [Int32.toBitVec_and]
  · exact (key v.toBitVec 24 (by omega)).symm
  · exact (key v.toBitVec 16 (by omega)).symm
  · exact (key v.toBitVec 8 (by omega)).symm
  · exact (key v.toBitVec 0 (by omega)).symm
theorem zy_byte_lt (v : Int32) (i : Nat) : ∃ w : Nat, w < 256 ∧ zy_byte v i = nI w := pk_andE _ 8 (by decide)
