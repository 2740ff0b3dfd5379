/-! ===== search: the class's table and its slots ===== -/
def zs_ce (Y : zx_Y) (q kd ln : Nat) : Prop := (71 ≤ q ∧ q ≤ 75 ∨ 160 ≤ q) ∧ q < Y.2.2.2.1 ∧ Y.2.1 q = kd ∧ Y.2.2.1 q = ln
/-- the five rows of the search -/
def zs_Q (Y : zx_Y) (q : Nat → Nat) (R Z : Nat) : Prop :=
  (∀ k, 5 ≤ k → k ≤ 9 → Y.1 22 k = some (q k)) ∧ (zs_ce Y (q 5) 21 R ∧ zs_ce Y (q 6) 20 R ∧ zs_ce Y (q 7) 22 R ∧ zs_ce Y (q 8) 22 R ∧ zs_ce Y (q 9) 20 Z) ∧ q 6 ≠ q 9 ∧ q 7 ≠ q 8 ∧ R ≤ 20006 ∧ Z ≤ 65536
def zs_Hd (I : Nat → Nat → Int32) (Z sb mk nf : Nat) : Prop := (I 22 10 = nI sb ∧ I 22 11 = nI mk ∧ I 22 12 = nI nf) ∧ 5 ≤ sb ∧ sb ≤ 15 ∧ 2 ^ sb ≤ Z ∧ mk + nf < 2 ^ 30
def zs_Ts (I : Nat → Nat → Int32) (q9 mk nf a : Nat) : Option Nat := if mk < (I q9 a).toNatClampNeg ∧ (I q9 a).toNatClampNeg ≤ mk + nf then some ((I q9 a).toNatClampNeg - mk - 1) else none
def zs_he (sb x : Nat) : Int32 := (((nL x * (-7046029254386353131 : Int64)).toUInt64 >>> (((64 : Int32) - nI sb).toInt64.toUInt64 &&& Int64.toUInt64 63)).toInt64).toInt32
def zs_h (sb x : Nat) : Nat := (zs_he sb x).toBitVec.toNat % 2 ^ sb
def zs_Dm (I : Nat → Nat → Int32) (L : Nat → Nat → Int64) (Y : zx_Y) (q : Nat → Nat) (R Z sb mk nf : Nat) (rw : Nat → Nat) (pa : Nat → Int32) (ca lo : Nat → Nat) : Prop :=
  zs_Q Y q R Z ∧ zs_Hd I Z sb mk nf ∧ nf ≤ R ∧
  (∀ i, i < nf → L (q 5) i = nL (rw i) ∧ rw i < 2 ^ 63 ∧ I (q 6) i = pa i ∧ I (q 7) i = nI (ca i) ∧ I (q 8) i = nI (lo i) ∧ ca i ≤ 80 ∧ lo i ≤ 80) ∧
  (∀ a, a < Z → ∃ v, I (q 9) a = nI v ∧ v ≤ mk + nf) ∧ zq_H (2 ^ sb) (zs_h sb) rw (zs_Ts I (q 9) mk nf) nf
theorem zs_ce_is {I : Nat → Nat → Int32} {L : Nat → Nat → Int64} {Y : zx_Y} {q kd ln : Nat} (h : zs_ce Y q kd ln) : zx_is (I, L, Y) q kd ∧ zx_ln (I, L, Y) q = ln := ⟨⟨by have := h.1; omega, h.2.1, h.2.2.1⟩, h.2.2.2⟩
theorem zs_ce_ar {I : Nat → Nat → Int32} {L : Nat → Nat → Int64} {Y : zx_Y} {q kd ln : Nat} (h : zs_ce Y q kd ln) (h1 : 20 ≤ kd) (h2 : kd ≤ 26) : (3 ≤ q ∧ q < zx_n (I, L, Y) ∧ 20 ≤ zx_kd (I, L, Y) q ∧ zx_kd (I, L, Y) q ≤ 26) ∨ q < 3 := by
  have e : zx_kd (I, L, Y) q = kd := h.2.2.1
  exact Or.inl ⟨by have := h.1; omega, h.2.1, by omega, by omega⟩
theorem zs_Q_ne {Y : zx_Y} {q : Nat → Nat} {R Z : Nat} (h : zs_Q Y q R Z) : (q 5 ≠ q 6 ∧ q 5 ≠ q 7 ∧ q 5 ≠ q 8 ∧ q 5 ≠ q 9) ∧ (q 6 ≠ q 7 ∧ q 6 ≠ q 8 ∧ q 6 ≠ q 9) ∧ (q 7 ≠ q 8 ∧ q 7 ≠ q 9) ∧ q 8 ≠ q 9 ∧ ∀ k, 5 ≤ k → k ≤ 9 → 71 ≤ q k ∧ (q k ≤ 75 ∨ 160 ≤ q k) := by
  obtain ⟨-, ⟨⟨a1, -, a3, -⟩, ⟨b1, -, b3, -⟩, ⟨c1, -, c3, -⟩, ⟨d1, -, d3, -⟩, ⟨e1, -, e3, -⟩⟩, h1, h2, -⟩ := h
  refine ⟨⟨fun z => ?_, fun z => ?_, fun z => ?_, fun z => ?_⟩, ⟨fun z => ?_, fun z => ?_, h1⟩, ⟨h2, fun z => ?_⟩, fun z => ?_, fun k k1 k2 => ?_⟩
  · rw [z] at a3; omega
  · rw [z] at a3; omega
  · rw [z] at a3; omega
  · rw [z] at a3; omega
  · rw [z] at b3; omega
  · rw [z] at b3; omega
  · rw [z] at c3; omega
  · rw [z] at d3; omega
  · have : k = 5 ∨ k = 6 ∨ k = 7 ∨ k = 8 ∨ k = 9 := by omega
    rcases this with rfl | rfl | rfl | rfl | rfl <;> omega
theorem nI_mask (e : Int32) {k : Nat} (hk : k ≤ 30) : e &&& nI (2 ^ k - 1) = nI (e.toBitVec.toNat % 2 ^ k) := by
  have h1 : 2 ^ k ≤ 2 ^ 30 := Nat.pow_le_pow_right (by omega) hk
  have h2 := Nat.mod_lt e.toBitVec.toNat (Nat.pow_pos (n := k) (show 0 < 2 by omega))
  apply Int32.toBitVec_inj.mp
  apply BitVec.eq_of_toNat_eq
  rw [Int32.toBitVec_and, BitVec.toNat_and]
  show e.toBitVec.toNat &&& (BitVec.ofNat 32 (2 ^ k - 1)).toNat = (BitVec.ofNat 32 (e.toBitVec.toNat % 2 ^ k)).toNat
  rw [BitVec.toNat_ofNat, BitVec.toNat_ofNat, Nat.mod_eq_of_lt (a := 2 ^ k - 1) (by omega), Nat.mod_eq_of_lt (a := e.toBitVec.toNat % 2 ^ k) (by omega), Nat.and_two_pow_sub_one_eq_mod]
theorem nI_bits {n : Nat} (h : n < 2 ^ 31) : (nI n).toBitVec.toNat = n := by
  show (BitVec.ofNat 32 n).toNat = n
  rw [BitVec.toNat_ofNat]
  exact Nat.mod_eq_of_lt (by omega)
theorem nI_sh1 {k : Nat} (hk : k < 16) : (1 : Int32) <<< (nI k &&& 31) = nI (2 ^ k) := by
  have : ∀ k : Fin 16, (1 : Int32) <<< (nI k.1 &&& 31) = nI (2 ^ k.1) := by decide
  exact this ⟨k, hk⟩
theorem zs_sb {sb : Nat} (h1 : 5 ≤ sb) (h2 : sb ≤ 15) : 32 ≤ 2 ^ sb ∧ 2 ^ sb ≤ 32768 := ⟨Nat.le_trans (by decide : 32 ≤ 2 ^ 5) (Nat.pow_le_pow_right (by omega) h1), Nat.le_trans (Nat.pow_le_pow_right (by omega) h2) (by decide : 2 ^ 15 ≤ 32768)⟩
theorem nI_byte {n : Nat} (h : n < 128) : (nI n).toInt8.toInt32 = nI n ∧ vp_nar .byte (nI n) = nI n := by
  have : ∀ n : Fin 128, (nI n.1).toInt8.toInt32 = nI n.1 ∧ vp_nar .byte (nI n.1) = nI n.1 := by decide
  exact this ⟨n, h⟩
section YV
variable {l : Launch} {E : zx_E} {d : Nat} {I : Nat → Nat → Int32} {L : Nat → Nat → Int64} {Y : zx_Y} {Qo : Option Value → zx_M → Prop} {Q : Int32 → zx_M → Prop} {Ql : Int64 → zx_M → Prop} {Qv : zx_M → Prop} {q rw ca lo : Nat → Nat} {pa : Nat → Int32} {R Z sb mk nf : Nat}
theorem zs_Ts_v {a v : Nat} (h : I (q 9) a = nI v) (hv : v < 2 ^ 31) : zs_Ts I (q 9) mk nf a = if mk < v ∧ v ≤ mk + nf then some (v - mk - 1) else none := by
  unfold zs_Ts
  rw [h, nI_clamp hv]
theorem zy_96 (hY : zx_lay Y) (hD : zs_Dm I L Y q R Z sb mk nf rw pa ca lo) {a : Nat} (ha : a < Z) (hq : Q (if (zs_Ts I (q 9) mk nf a).isSome then 1 else 0) (I, L, Y)) : zx_Ci l E d 96 [.ref 22, .int (nI a)] (I, L, Y) Q := by
  obtain ⟨hQ, ⟨⟨h10, h11, h12⟩, h1, h2, h3, h4⟩, -, -, hv, -⟩ := hD
  have q9 := hQ.2.1.2.2.2.2
  have Z6 := hQ.2.2.2.2.2
  obtain ⟨k1, k2⟩ := zs_ce_is (I := I) (L := L) q9
  obtain ⟨v, v1, v2⟩ := hv a ha
  have hin : vp_in (nI a) (zx_ln (I, L, Y) (q 9)) := by rw [k2]; exact vp_in_nI ha (by omega)
  have r9 := hQ.1 9 (by omega) (by omega)
  rw [zs_Ts_v v1 (by omega)] at hq
  refine sg_96_0 hY _ ⟨q 9, r9, Or.inl k1, hin, ?_⟩
  rw [nI_clamp (by omega), v1, h11, h12, nI_add, nI_leI (by omega) (by omega)]
  refine ⟨fun z => ⟨_, rfl, ?_⟩, fun z => ⟨q 9, r9, Or.inl k1, hin, ?_⟩⟩
  · rw [if_neg (show ¬ (mk < v ∧ v ≤ mk + nf) by omega)] at hq; exact hq
  · rw [v1, nI_ltI (by omega) (by omega)]
    refine ⟨fun z2 => ⟨_, rfl, ?_⟩, fun z2 => ⟨_, rfl, ?_⟩⟩
    · rw [if_neg (show ¬ (mk < v ∧ v ≤ mk + nf) by omega)] at hq; exact hq
    · rw [if_pos (show mk < v ∧ v ≤ mk + nf by omega)] at hq; exact hq
theorem zy_97 (hY : zx_lay Y) (hD : zs_Dm I L Y q R Z sb mk nf rw pa ca lo) {x : Nat} (hx : x < 2 ^ 63)
    (hq : ∀ k, k < 2 ^ sb → zq_stop rw (zs_Ts I (q 9) mk nf) x (zq_a (2 ^ sb) (zs_h sb) x k) → (∀ k', k' < k → ∃ i, zs_Ts I (q 9) mk nf (zq_a (2 ^ sb) (zs_h sb) x k') = some i ∧ rw i ≠ x) → Q (nI (zq_a (2 ^ sb) (zs_h sb) x k)) (I, L, Y)) :
    zx_Ci l E (d + 1) 97 [.ref 22, .long (nL x)] (I, L, Y) Q := by
  obtain ⟨hQ, ⟨⟨h10, h11, h12⟩, h1, h2, h3, h4⟩, hR, hr, hv, hH⟩ := id hD
  obtain ⟨sb1, sb2⟩ := zs_sb h1 h2
  have c5 := hQ.2.1.1
  have c9 := hQ.2.1.2.2.2.2
  have R6 := hQ.2.2.2.2.1
  have Z6 := hQ.2.2.2.2.2
  obtain ⟨k51, k52⟩ := zs_ce_is (I := I) (L := L) c5
  obtain ⟨k91, k92⟩ := zs_ce_is (I := I) (L := L) c9
  have r9 := hQ.1 9 (by omega) (by omega)
  have r5 := hQ.1 5 (by omega) (by omega)
  obtain ⟨k0, hk0, hst, hbe⟩ := zq_find hH x
  refine sg_97_0 hY _ ?_
  rw [h10, nI_sh1 (by omega), show nI (2 ^ sb) - 1 = nI (2 ^ sb - 1) from zy_sub_nI (b := 1) (by omega) (by omega)]
  have key : ∀ r k, k + r = k0 → ∀ e : Int32, e &&& nI (2 ^ sb - 1) = nI (zq_a (2 ^ sb) (zs_h sb) x k) → zx_To l E (d + 1) 97 28 [some (.ref 22), some (.long (nL x)), none, some (.int (nI (2 ^ sb - 1))), some (.int e), some (.int (nI k))] [] (I, L, Y) (fun r M' => ∃ v, r = some (.int v) ∧ Q v M') := by
    intro r
    induction r with
    | zero =>
      intro k hk e he
      have ek : k = k0 := by omega
      subst ek
      have alt := zq_a_lt (M := 2 ^ sb) (h := zs_h sb) (x := x) (k := k) (by omega)
      have fin := hq k hk0 hst hbe
      refine sg_97_28 hY _ _ _ _ ⟨fun h => ?_, fun _ => ⟨q 9, r9, zs_ce_ar c9 (by omega) (by omega), ?_⟩⟩
      · rw [nI_ltI (by omega) (by omega)] at h; omega
      rw [he, k92, show Int32.ofNat Z = nI Z from rfl, nI_ltI (by omega) (by omega)]
      refine ⟨fun _ => ?_, fun z => absurd (by omega) z⟩
      refine zy_96 hY hD (by omega) ⟨hY, fun z => ⟨_, rfl, fin⟩, fun z => ?_⟩
      rw [zy_b1] at z
      rcases hst with h0 | ⟨i, i1, i2⟩
      · rw [h0] at z; cases z
      · obtain ⟨v, v1, v2⟩ := hv _ (show zq_a (2 ^ sb) (zs_h sb) x k < Z by omega)
        have hi := hH.2.1 _ _ alt i1
        rw [zs_Ts_v v1 (by omega)] at i1
        have hc : mk < v ∧ v ≤ mk + nf := by
          by_cases y : mk < v ∧ v ≤ mk + nf
          · exact y
          · rw [if_neg y] at i1; cases i1
        rw [if_pos hc] at i1
        have i1 := Option.some.inj i1
        have ev : nI v - nI mk - 1 = nI i := by
          rw [zy_sub_nI (by omega) (by omega), show nI (v - mk) - 1 = nI (v - mk - 1) from zy_sub_nI (b := 1) (by omega) (by omega), i1]
        refine ⟨q 5, r5, q 9, r9, Or.inl k91, by show vp_in _ (zx_ln (I, L, Y) (q 9)); rw [k92]; exact vp_in_nI (by omega) (by omega), k51, ?_, ?_⟩
        · show vp_in (I (q 9) (nI _).toNatClampNeg - I 22 11 - 1) (zx_ln (I, L, Y) (q 5))
          rw [k52, nI_clamp (by omega), v1, h11, ev]; exact vp_in_nI (by omega) (by omega)
        · have rl := (hr i hi).2.1
          show (¬ lg_cmp (L (q 5) (I (q 9) (nI _).toNatClampNeg - I 22 11 - 1).toNatClampNeg) (nL x) = 0 → _) ∧ (lg_cmp (L (q 5) (I (q 9) (nI _).toNatClampNeg - I 22 11 - 1).toNatClampNeg) (nL x) = 0 → _)
          rw [nI_clamp (n := zq_a (2 ^ sb) (zs_h sb) x k) (by omega), v1, h11, ev, nI_clamp (by omega), (hr i hi).1, nL_cmp rl hx]
          exact ⟨fun z => absurd i2 z, fun _ => ⟨_, rfl, fin⟩⟩
    | succ r ih =>
      intro k hk e he
      obtain ⟨i, i1, i2⟩ := hbe k (by omega)
      have alt := zq_a_lt (M := 2 ^ sb) (h := zs_h sb) (x := x) (k := k) (by omega)
      refine sg_97_28 hY _ _ _ _ ⟨fun h => ?_, fun _ => ⟨q 9, r9, zs_ce_ar c9 (by omega) (by omega), ?_⟩⟩
      · rw [nI_ltI (by omega) (by omega)] at h; omega
      rw [he, k92, show Int32.ofNat Z = nI Z from rfl, nI_ltI (by omega) (by omega)]
      refine ⟨fun _ => ?_, fun z => absurd (by omega) z⟩
      refine zy_96 hY hD (by omega) ⟨hY, fun z => ?_, fun z => ?_⟩
      · rw [zy_b0, i1] at z; cases z
      · obtain ⟨v, v1, v2⟩ := hv _ (show zq_a (2 ^ sb) (zs_h sb) x k < Z by omega)
        have hi := hH.2.1 _ _ alt i1
        rw [zs_Ts_v v1 (by omega)] at i1
        have hc : mk < v ∧ v ≤ mk + nf := by
          by_cases y : mk < v ∧ v ≤ mk + nf
          · exact y
          · rw [if_neg y] at i1; cases i1
        rw [if_pos hc] at i1
        have i1 := Option.some.inj i1
        have ev : nI v - nI mk - 1 = nI i := by
          rw [zy_sub_nI (by omega) (by omega), show nI (v - mk) - 1 = nI (v - mk - 1) from zy_sub_nI (b := 1) (by omega) (by omega), i1]
        refine ⟨q 5, r5, q 9, r9, Or.inl k91, by show vp_in _ (zx_ln (I, L, Y) (q 9)); rw [k92]; exact vp_in_nI (by omega) (by omega), k51, ?_, ?_⟩
        · show vp_in (I (q 9) (nI _).toNatClampNeg - I 22 11 - 1) (zx_ln (I, L, Y) (q 5))
          rw [k52, nI_clamp (by omega), v1, h11, ev]; exact vp_in_nI (by omega) (by omega)
        · have rl := (hr i hi).2.1
          show (¬ lg_cmp (L (q 5) (I (q 9) (nI _).toNatClampNeg - I 22 11 - 1).toNatClampNeg) (nL x) = 0 → _) ∧ (lg_cmp (L (q 5) (I (q 9) (nI _).toNatClampNeg - I 22 11 - 1).toNatClampNeg) (nL x) = 0 → _)
          rw [nI_clamp (n := zq_a (2 ^ sb) (zs_h sb) x k) (by omega), v1, h11, ev, nI_clamp (by omega), (hr i hi).1, nL_cmp rl hx]
          refine ⟨fun _ => ?_, fun z => absurd z i2⟩
          rw [nI_1, nI_1]
          refine ih (k + 1) (by omega) _ ?_
          rw [nI_mask _ (by omega), nI_bits (by omega), zq_a_s (by omega)]
  refine key k0 0 (by omega) _ ?_
  show zs_he sb x &&& _ = _
  rw [nI_mask _ (by omega)]
  unfold zq_a zs_h
  rw [Nat.add_zero, Nat.mod_mod]
/-- what changes as a row is added -/
def zs_fa (q : Nat → Nat) (I J : Nat → Nat → Int32) (L K : Nat → Nat → Int64) : Prop :=
  (∀ a k, a ≠ q 6 → a ≠ q 7 → a ≠ q 8 → a ≠ q 9 → ¬ (a = 22 ∧ k = 12) → J a k = I a k) ∧ ∀ a k, a ≠ q 5 → K a k = L a k
theorem zy_95 (hY : zx_lay Y) (hD : zs_Dm I L Y q R Z sb mk nf rw pa ca lo) {x cv lv : Nat} {x3 x4 : Int32} (hx : x < 2 ^ 63)
    (hold : ∀ i, i < nf → rw i = x → Qv (I, L, Y))
    (hnew : (∀ i, i < nf → rw i ≠ x) → nf < R ∧ nf + 1 < 2 ^ sb ∧ mk + nf + 1 < 2 ^ 30 ∧ cv ≤ 80 ∧ lv ≤ 80 ∧ ((x3 = -1 ∧ cv = 0 ∧ lv = 0) ∨ ∃ j m, j < nf ∧ x3 = nI j ∧ x4 = nI m ∧ cv = ca j + 1 ∧ lv = lo j + m))
    (hq : ∀ J K, (∀ i, i < nf → rw i ≠ x) → zs_fa q I J L K → zs_Dm J K Y q R Z sb mk (nf + 1) (fun i => if i = nf then x else rw i) (fun i => if i = nf then x3 else pa i) (fun i => if i = nf then cv else ca i) (fun i => if i = nf then lv else lo i) → Qv (J, K, Y)) :
    zx_Cv l E (d + 2) 95 [.ref 22, .long (nL x), .int x3, .int x4] (I, L, Y) Qv := by
  obtain ⟨hQ, ⟨⟨h10, h11, h12⟩, h1, h2, h3, h4⟩, hR, hr, hv, hH⟩ := id hD
  obtain ⟨sb1, sb2⟩ := zs_sb h1 h2
  obtain ⟨⟨n56, n57, n58, n59⟩, ⟨n67, n68, n69⟩, ⟨n78, n79⟩, n89, nq⟩ := zs_Q_ne hQ
  obtain ⟨c5, c6, c7, c8, c9⟩ := hQ.2.1
  have R6 := hQ.2.2.2.2.1
  have Z6 := hQ.2.2.2.2.2
  have g6 := nq 6 (by omega) (by omega)
  have g7 := nq 7 (by omega) (by omega)
  have g8 := nq 8 (by omega) (by omega)
  have g9 := nq 9 (by omega) (by omega)
  refine sg_95_0 hY _ _ _ (zy_97 hY hD hx (fun k hk hst hbe => ⟨hY, fun h => absurd h (nI_pos (by have := zq_a_lt (M := 2 ^ sb) (h := zs_h sb) (x := x) (k := k) (by omega); omega)), fun _ => ?_⟩))
  have alt := zq_a_lt (M := 2 ^ sb) (h := zs_h sb) (x := x) (k := k) (by omega)
  generalize hs : zq_a (2 ^ sb) (zs_h sb) x k = sl at *
  refine zy_96 hY hD (by omega) ⟨hY, fun z => sg_95_33 hY ⟨rfl, ?_⟩, fun z => ?_⟩
  · rw [zy_b1] at z
    rcases hst with h0 | ⟨i, i1, i2⟩
    · rw [h0] at z; cases z
    · exact hold i (hH.2.1 _ _ alt i1) i2
  · rw [zy_b0] at z
    have none_ : zs_Ts I (q 9) mk nf sl = none := by
      cases e : zs_Ts I (q 9) mk nf sl with
      | none => rfl
      | some i => rw [e] at z; cases z
    have hno : ∀ i, i < nf → rw i ≠ x := zq_none hH hbe (by rw [hs]; exact none_)
    obtain ⟨w1, w2, w3, w4, w5, w6⟩ := hnew hno
    have nin : ∀ {I' : Nat → Nat → Int32} {L' : Nat → Nat → Int64} {k kd : Nat}, zs_ce Y (q k) kd R → vp_in (nI nf) (zx_ln (I', L', Y) (q k)) := fun {I' L' k kd} hc => by
      rw [(zs_ce_is hc).2]; exact vp_in_nI w1 (by omega)
    have r : ∀ k, 5 ≤ k → k ≤ 9 → Y.1 22 k = some (q k) := hQ.1
    -- the end
    have fin : ∀ y : Int32, vp_nar .byte y = nI lv → ∀ J2, J2 = zx_u2 (zx_u2 I (q 6) nf x3) (q 7) nf (nI cv) → zx_To l E (d + 2) 95 119 [some (.ref 22), none, none, none, none, some (.int (nI sl)), none] [.int y, .int (nI nf), .ref (q 8)] (J2, zx_u2 L (q 5) nf (nL x), Y) (fun r M' => r = none ∧ Qv M') := fun y hy J2 hJ2 => by
      refine sg_95_119 hY _ _ _ _ ⟨(zs_ce_is c8).1, nin c8, q 9, r 9 (by omega) (by omega), (zs_ce_is c9).1, by rw [(zs_ce_is c9).2]; exact vp_in_nI (by omega) (by omega), rfl, ?_⟩
      have e11 : zx_u2 J2 (q 8) (nI nf).toNatClampNeg (vp_nar .byte y) 22 11 = nI mk := by rw [zy_u2_na (by omega), hJ2, zy_u2_na (by omega), zy_u2_na (by omega)]; exact h11
      have e12 : zx_u2 J2 (q 8) (nI nf).toNatClampNeg (vp_nar .byte y) 22 12 = nI nf := by rw [zy_u2_na (by omega), hJ2, zy_u2_na (by omega), zy_u2_na (by omega)]; exact h12
      rw [e11, e12, hy, nI_clamp (by omega), nI_clamp (by omega), nI_1, nI_add, hJ2]
      have lay : ∀ a k, a ≠ 22 → zx_u2 (zx_u2 (zx_u2 (zx_u2 (zx_u2 I (q 6) nf x3) (q 7) nf (nI cv)) (q 8) nf (nI lv)) 22 12 (nI (nf + 1))) (q 9) sl (nI (mk + (nf + 1))) a k = zx_u2 (zx_u2 (zx_u2 (zx_u2 I (q 6) nf x3) (q 7) nf (nI cv)) (q 8) nf (nI lv)) (q 9) sl (nI (mk + (nf + 1))) a k := fun a k ha => by
        by_cases z : a = q 9 ∧ k = sl
        · rw [z.1, z.2, zy_u2_self, zy_u2_self]
        · rw [zy_u2_ne z, zy_u2_ne z, zy_u2_na ha]
      refine hq _ _ hno ⟨fun a k a1 a2 a3 a4 a5 => by rw [zy_u2_na a4, zy_u2_ne a5, zy_u2_na a3, zy_u2_na a2, zy_u2_na a1], fun a k a1 => zy_u2_na a1⟩ ⟨hQ, ⟨⟨?_, ?_, ?_⟩, h1, h2, h3, by omega⟩, by omega, fun i hi => ?_, fun a ha => ?_, ?_⟩
      · rw [zy_u2_na (by omega), zy_u2_nk (by omega), zy_u2_na (by omega), zy_u2_na (by omega), zy_u2_na (by omega)]; exact h10
      · rw [zy_u2_na (by omega), zy_u2_nk (by omega), zy_u2_na (by omega), zy_u2_na (by omega), zy_u2_na (by omega)]; exact h11
      · rw [zy_u2_na (by omega), zy_u2_self]
      · rw [lay (q 6) i (by omega), lay (q 7) i (by omega), lay (q 8) i (by omega)]
        rw [zy_u2_na n69, zy_u2_na n68, zy_u2_na n67, zy_u2_na n79, zy_u2_na n78, zy_u2_na n89]
        dsimp only
        by_cases e : i = nf
        · rw [e, zy_u2_self, zy_u2_self, zy_u2_self, zy_u2_self, if_pos rfl, if_pos rfl, if_pos rfl, if_pos rfl]
          exact ⟨rfl, hx, rfl, rfl, rfl, w4, w5⟩
        · repeat rw [zy_u2_nk e]
          rw [if_neg e, if_neg e, if_neg e, if_neg e]
          exact hr i (by omega)
      · rw [lay (q 9) a (by omega)]
        by_cases e : a = sl
        · rw [e, zy_u2_self]; exact ⟨_, rfl, by omega⟩
        · rw [zy_u2_nk e, zy_u2_na (fun z => n89 z.symm), zy_u2_na (fun z => n79 z.symm), zy_u2_na (fun z => n69 z.symm)]
          obtain ⟨v, v1, v2⟩ := hv a ha
          exact ⟨v, v1, by omega⟩
      · have n1 : zq_a (2 ^ sb) (zs_h sb) x k = sl := hs
        refine zq_H_new hH hk w2 hbe (by rw [n1]; exact none_) (fun i hi => if_neg (by omega)) (if_pos rfl) (fun a ha hne => ?_) ?_
        · rw [n1] at hne
          obtain ⟨v, v1, v2⟩ := hv a (by omega)
          rw [zs_Ts_v v1 (by omega), zs_Ts_v (v := v) (by rw [lay (q 9) a (by omega), zy_u2_nk hne, zy_u2_na (fun z => n89 z.symm), zy_u2_na (fun z => n79 z.symm), zy_u2_na (fun z => n69 z.symm)]; exact v1) (by omega)]
          by_cases y : mk < v ∧ v ≤ mk + nf
          · rw [if_pos y, if_pos ⟨y.1, by omega⟩]
          · rw [if_neg y, if_neg (fun y2 => y ⟨y2.1, by omega⟩)]
        · rw [n1, zs_Ts_v (v := mk + (nf + 1)) zy_u2_self (by omega), if_pos ⟨by omega, by omega⟩]
          congr 1; omega
    refine ⟨q 5, r 5 (by omega) (by omega), zs_ce_ar c5 (by omega) (by omega), ?_⟩
    show (I 22 12 < Int32.ofNat (zx_ln (I, L, Y) (q 5)) → _) ∧ (¬ I 22 12 < Int32.ofNat (zx_ln (I, L, Y) (q 5)) → _)
    rw [(zs_ce_is c5).2, show Int32.ofNat R = nI R from rfl, h12, nI_ltI (by omega) (by omega)]
    refine ⟨fun _ => ⟨q 5, r 5 (by omega) (by omega), (zs_ce_is c5).1, ?_, q 6, r 6 (by omega) (by omega), (zs_ce_is c6).1, ?_, ?_⟩, fun z => absurd w1 z⟩
    · show vp_in (I 22 12) _
      rw [h12]; exact nin c5
    · show vp_in (I 22 12) _
      rw [h12]; exact nin c6
    · dsimp only
      rw [h12, nI_clamp (by omega)]
      rcases w6 with ⟨x1, x2, x5⟩ | ⟨j, m, j1, j2, j3, j4, j5⟩
      · refine ⟨fun z => absurd z (by rw [x1]; decide), fun _ => ?_⟩
        refine sg_95_63 hY _ _ _ _ ⟨q 7, r 7 (by omega) (by omega), fun z => absurd z (by decide), fun _ => ?_⟩
        rw [zy_u2_na (show (22 : Nat) ≠ q 6 by omega), h12]
        refine sg_95_91 hY _ _ _ _ _ _ _ ⟨(zs_ce_is c7).1, nin c7, q 8, r 8 (by omega) (by omega), fun z => absurd z (by decide), fun _ => ?_⟩
        rw [nI_clamp (by omega), zy_u2_na (show (22 : Nat) ≠ q 7 by omega), zy_u2_na (show (22 : Nat) ≠ q 6 by omega), h12]
        exact fin 0 (by rw [x5]; decide) _ (by rw [x2]; rfl)
      · obtain ⟨-, -, -, p7, p8, p9, p10⟩ := hr j j1
        refine ⟨fun _ => ?_, fun z => absurd (by rw [j2]; exact nI_pos' (by omega)) z⟩
        have jin : ∀ {I' : Nat → Nat → Int32} {L' : Nat → Nat → Int64} {k kd : Nat}, zs_ce Y (q k) kd R → vp_in x3 (zx_ln (I', L', Y) (q k)) := fun {I' L' k kd} hc => by
          rw [(zs_ce_is hc).2, j2]; exact vp_in_nI (by omega) (by omega)
        refine sg_95_63 hY _ _ _ _ ⟨q 7, r 7 (by omega) (by omega), fun _ => ⟨q 7, r 7 (by omega) (by omega), (zs_ce_is c7).1, jin c7, ?_⟩, fun z => absurd rfl z⟩
        have e7 : zx_u2 I (q 6) nf x3 (q 7) x3.toNatClampNeg = nI (ca j) := by rw [zy_u2_na (fun z => n67 z.symm), j2, nI_clamp (by omega)]; exact p7
        rw [zy_u2_na (show (22 : Nat) ≠ q 6 by omega), h12, e7, nI_1, (nI_byte (by omega)).1]
        refine sg_95_91 hY _ _ _ _ _ _ _ ⟨(zs_ce_is c7).1, nin c7, q 8, r 8 (by omega) (by omega), fun _ => ⟨q 8, r 8 (by omega) (by omega), (zs_ce_is c8).1, jin c8, ?_⟩, fun z => absurd rfl z⟩
        rw [nI_clamp (by omega), (nI_byte (by omega)).2]
        have e8 : zx_u2 (zx_u2 I (q 6) nf x3) (q 7) nf (nI (ca j + 1)) (q 8) x3.toNatClampNeg = nI (lo j) := by rw [zy_u2_na (fun z => n78 z.symm), zy_u2_na (fun z => n68 z.symm), j2, nI_clamp (by omega)]; exact p8
        rw [e8, j3, nI_add, (nI_byte (by omega)).1, zy_u2_na (show (22 : Nat) ≠ q 7 by omega), zy_u2_na (show (22 : Nat) ≠ q 6 by omega), h12]
        exact fin _ (by rw [(nI_byte (by omega)).2, j5]) _ (by rw [j4])
end YV
