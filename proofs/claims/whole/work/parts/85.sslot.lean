/-! ===== search: the reference's slots ===== -/
theorem nL_div {a b : Nat} (ha : a < 2 ^ 63) (hb : b < 2 ^ 63) : nL a / nL b = nL (a / b) := by
  have hd : a / b ≤ a := Nat.div_le_self _ _
  apply Int64.toInt_inj.mp
  rw [Int64.toInt_div, nL_toInt ha, nL_toInt hb, nL_toInt (by omega), Int.tdiv_eq_ediv_of_nonneg (by omega), ← Int.natCast_ediv]
  generalize a / b = e at hd
  exact Int.bmod_eq_of_le (by omega) (by omega)
theorem nL_mul {a b : Nat} (h : a * b < 2 ^ 63) : nL a * nL b = nL (a * b) := (Int64.ofNat_mul a b).symm
theorem nL_rem {a b : Nat} (ha : a < 2 ^ 63) (hb : b < 2 ^ 63) : nL a - nL a / nL b * nL b = nL (a % b) := by
  have hd : a / b * b ≤ a := Nat.div_mul_le_self _ _
  rw [nL_div ha hb, nL_mul (by omega), nL_sub ha hd]
  congr 1
  have := Nat.div_add_mod a b
  rw [Nat.mul_comm] at this
  omega
theorem nL_xor {a b : Nat} (ha : a < 2 ^ 63) (hb : b < 2 ^ 63) : nL a ^^^ nL b = nL (a ^^^ b) := by
  refine nL_eq (Nat.xor_lt_two_pow ha hb) ?_
  rw [Int64.toBitVec_xor, BitVec.toNat_xor, nL_tn ha, nL_tn hb]
theorem nL_int {n : Nat} : (nL n).toInt32 = nI n := Int64.toInt32_ofNat'
/-- the reference's hash -/
def zg_h (s : Nat) : Nat := (s ^^^ (s / 2 ^ 19)) % 65536
theorem zg_h_lt {s : Nat} : zg_h s < 65536 := Nat.mod_lt _ (by omega)
def zg_Tb (J : Nat → Nat → Int32) (a : Nat) : Option Nat := if J 148 a < 0 then none else some (J 148 a).toNatClampNeg
theorem zg_Tb_none {J : Nat → Nat → Int32} {a : Nat} : zg_Tb J a = none ↔ J 148 a < 0 := by
  unfold zg_Tb
  by_cases h : J 148 a < 0
  · rw [if_pos h]; exact ⟨fun _ => h, fun _ => rfl⟩
  · rw [if_neg h]; exact ⟨fun q => (by cases q), fun q => absurd q h⟩
theorem zg_Tb_some {J : Nat → Nat → Int32} {a i : Nat} (h : zg_Tb J a = some i) : ¬ J 148 a < 0 ∧ J 148 a = nI i ∧ i < 2 ^ 31 := by
  unfold zg_Tb at h
  by_cases z : J 148 a < 0
  · rw [if_pos z] at h; cases h
  · rw [if_neg z] at h
    obtain ⟨j, hj, e⟩ := nI_of z
    rw [e, nI_clamp hj] at h
    cases h
    exact ⟨z, e, hj⟩
theorem zg_Tb_at {J : Nat → Nat → Int32} {a i : Nat} (h : J 148 a = nI i) (hi : i < 2 ^ 31) : zg_Tb J a = some i := by
  unfold zg_Tb
  rw [h, nI_clamp hi, if_neg]
  rw [← nI_0, nI_ltI hi (by omega)]; omega
section YRb
variable {l : Launch} {E : zx_E} {d : Nat} {I : Nat → Nat → Int32} {L : Nat → Nat → Int64} {Y : zx_Y} {Qo : Option Value → zx_M → Prop} {Q : Int32 → zx_M → Prop} {Ql : Int64 → zx_M → Prop} {Qv : zx_M → Prop} {P b x n : Nat} {f s : Nat → Nat}
theorem zy_221 (hY : zx_lay Y) (hx : x < 2 ^ 63) (hn : n ≤ 20000) (H : zq_H 65536 zg_h s (zg_Tb I) n) (hL : ∀ i, i < n → L 145 i = nL (s i) ∧ s i < 2 ^ 63)
    (hq : ∀ k, k < 65536 → zq_stop s (zg_Tb I) x (zq_a 65536 zg_h x k) → (∀ k', k' < k → ∃ i, zg_Tb I (zq_a 65536 zg_h x k') = some i ∧ s i ≠ x) → Q (nI (zq_a 65536 zg_h x k)) (I, L, Y)) : zx_Ci l E d 221 [.ref 132, .long (nL x)] (I, L, Y) Q := by
  refine sg_221_0 hY _ ?_
  have h19 : nL x >>> ((19 : Int32).toInt64 &&& 63) = nL (x / 2 ^ 19) := nL_shift hx (by decide)
  have hxd : x / 2 ^ 19 ≤ x := Nat.div_le_self _ _
  have hxx : x ^^^ (x / 2 ^ 19) < 2 ^ 63 := Nat.xor_lt_two_pow hx (by omega)
  rw [h19, nL_xor hx (by omega), show (65536 : Int64) = nL 65536 from rfl, nL_rem hxx (by omega), nL_int]
  have e0 : (x ^^^ x / 2 ^ 19) % 65536 = zq_a 65536 zg_h x 0 := by
    unfold zq_a
    rw [Nat.add_zero, Nat.mod_eq_of_lt zg_h_lt]; rfl
  rw [e0]
  obtain ⟨k, hk, hst, hb⟩ := zq_find H x
  have key : ∀ r j, j + r = k → zx_To l E d 221 12 [some (.ref 132), some (.long (nL x)), none, some (.int (nI (zq_a 65536 zg_h x j)))] [] (I, L, Y) (fun r M' => ∃ v, r = some (.int v) ∧ Q v M') := by
    intro r
    induction r with
    | zero =>
      intro j hj
      have ej : j = k := by omega
      subst ej
      have hlt := zq_a_lt (M := 65536) (h := zg_h) (x := x) (k := j) (by omega)
      have hin : vp_in (nI (zq_a 65536 zg_h x j)) 65536 := vp_in_nI hlt (by omega)
      have qq := hq j hk hst hb
      refine sg_221_12 hY _ _ ?_
      rw [nI_clamp (by omega)]
      refine ⟨hin, fun _ => ⟨_, rfl, qq⟩, fun h => ?_⟩
      rcases hst with e | ⟨i, e, es⟩
      · exact absurd (zg_Tb_none.mp e) h
      · obtain ⟨-, e2, hi⟩ := zg_Tb_some e
        have hin2 := H.2.1 _ _ hlt e
        rw [e2, nI_clamp hi, (hL i hin2).1]
        refine ⟨hin, vp_in_nI (by omega) (by omega), fun _ => ⟨_, rfl, qq⟩, fun h3 => ?_⟩
        exact absurd ((nL_cmp (hL i hin2).2 hx).mpr es) h3
    | succ r ih =>
      intro j hj
      have hlt := zq_a_lt (M := 65536) (h := zg_h) (x := x) (k := j) (by omega)
      have hin : vp_in (nI (zq_a 65536 zg_h x j)) 65536 := vp_in_nI hlt (by omega)
      obtain ⟨i, e, ne⟩ := hb j (by omega)
      obtain ⟨nz, e2, hi⟩ := zg_Tb_some e
      have hin2 := H.2.1 _ _ hlt e
      refine sg_221_12 hY _ _ ?_
      rw [nI_clamp (by omega)]
      refine ⟨hin, fun h => absurd h nz, fun _ => ?_⟩
      rw [e2, nI_clamp hi, (hL i hin2).1]
      refine ⟨hin, vp_in_nI (by omega) (by omega), fun h3 => absurd ((nL_cmp (hL i hin2).2 hx).mp h3) ne, fun _ => ?_⟩
      rw [nI_1, show (65536 : Int32) = nI 65536 from rfl, pk_rem (by omega) (by omega) (by omega), zq_a_s (by omega)]
      exact ih (j + 1) (by omega)
  exact key k 0 (by omega)
theorem zy_low32 (c : Nat) : zy_low c ≤ 32 := by
  unfold zy_low
  by_cases h : c = 0
  · rw [if_pos h]; exact Nat.le_refl _
  · rw [if_neg h]
    cases e : (List.range 10).find? (fun i => c.testBit i) with
    | none => exact Nat.le_refl _
    | some i =>
      have := List.mem_range.mp (List.mem_of_find?_eq_some e)
      show i ≤ 32
      omega
theorem zg_pop {s p : Nat} (hP : P ≤ 10) : zy_pop (zy_orN (zg_m f P s p) P) = zy_cnt (zg_m f P s p) P := by
  have hz : ∀ i, P ≤ i → i < 10 → zg_m f P s p i = false := fun i hi _ => by unfold zg_m; rw [decide_eq_false (by omega)]; rfl
  rw [← zy_orN_ext hP hz, zy_pop_orN, zy_cnt_ext hP hz]
theorem zy_224 (hY : zx_lay Y) (hP : P ≤ 10) {s p : Nat} (hb : b < 2 ^ 31) (h34 : I 132 34 = nI b) (hs : s < 2 ^ 63) (hp : p < P) (hq : Q (if zg_e f P b s p then 1 else 0) (I, L, Y)) : zx_Ci l E d.succ 224 [.ref 132, .long (nL s), .int (nI p), .int (nI (zy_orN (zg_m f P s p) P))] (I, L, Y) Q := by
  have c10 := zy_orN10 (zg_m f P s p) hP
  have dl := zg_d_lt (s := s) (p := p)
  have ll := zy_low32 (zy_orN (zg_m f P s p) P)
  have cl := zy_cnt_le (p := zg_m f P s p) P
  unfold zg_e at hq
  refine sg_224_0 hY _ _ _ (zy_219 hY hs (by omega) ⟨hY, ?_⟩)
  rw [zy_le0 (by omega)]
  refine ⟨fun h => ⟨_, rfl, ?_⟩, fun h => zy_265 hY c10 ⟨hY, ?_⟩⟩
  · rw [decide_eq_false (by omega)] at hq; exact hq
  · rw [decide_eq_true (by omega : 0 < zg_d s p), Bool.true_and] at hq
    rw [nI_eq (by omega) (by omega)]
    refine ⟨fun h2 => ⟨_, rfl, ?_⟩, fun h2 => zy_266 hY c10 ⟨hY, ?_⟩⟩
    · rw [decide_eq_false h2] at hq; exact hq
    · rw [decide_eq_true h2, Bool.true_and] at hq
      dsimp only
      rw [h34, zg_pop hP, nI_ltI hb (by omega)]
      refine ⟨fun h3 => ⟨_, rfl, ?_⟩, fun h3 => ⟨_, rfl, ?_⟩⟩
      · rw [decide_eq_false (by omega)] at hq; exact hq
      · rw [decide_eq_true (by omega)] at hq; exact hq
/-- the first state -/
def zg_st (f : Nat → Nat) (P : Nat) : Nat := zg_c P (fun p => zy_len (f p))
theorem zy_225 (hY : zx_lay Y) (hI : zg_I I P f) (hq : Ql (nL (zg_st f P)) (I, L, Y)) : zx_Cl l E (d + 1) 225 [.ref 132] (I, L, Y) Ql := by
  obtain ⟨hP, h3, h4⟩ := hI
  have l8 : ∀ p, p < P → zy_len (f p) < 16 := fun p hp => by have := zy_len8 (h4 p hp).2; omega
  refine sg_225_0 hY ?_
  refine zy_down (n := P) (P := fun i => zx_To l E (d + 1) 225 4 [some (.ref 132), some (.long (nL (zg_c i (fun p => zy_len (f p))))), none, some (.int (nI i))] [] (I, L, Y) _) ?_ (fun i hi ih => ?_)
  · exact sg_225_4 hY _ _ ⟨fun _ => ⟨_, rfl, hq⟩, fun h1 => absurd (by rw [h3]; exact (nI_leI (by omega) (by omega)).mpr (Nat.le_refl _)) h1⟩
  · refine sg_225_4 hY _ _ ⟨fun h1 => ?_, fun _ => ⟨vp_in_nI (by omega) (by omega), ?_⟩⟩
    · rw [h3, nI_leI (by omega) (by omega)] at h1; omega
    · obtain ⟨e, hf⟩ := h4 i hi
      rw [nI_clamp (by omega), e]
      refine zy_171 hY (by omega) ⟨hY, ?_⟩
      have c1 := zg_c_lt (P := i) (g := fun p => zy_len (f p)) (fun p hp => l8 p (by omega))
      have c2 := zg_c_lt (P := i + 1) (g := fun p => zy_len (f p)) (fun p hp => l8 p (by omega))
      have c3 := zg_40 (P := i + 1) (by omega) c2
      rw [zg_c] at ih c3
      have e16 : 2 ^ (4 * i) = 16 ^ i := by rw [Nat.pow_mul]
      rw [nL_put (l8 i hi) (by omega), ← e16, nL_or (by rw [e16]; exact c1) (by rw [e16]; omega), nI_1, e16]
      exact ih
end YRb
