/-! ===== class cells of one memory, reference cells of another ===== -/
def zy_mix (A B : Nat → Nat → Int32) : Nat → Nat → Int32 := fun a k => cond (Nat.blt a 132) (A a k) (B a k)
theorem zy_mix_lo {A B : Nat → Nat → Int32} {a k : Nat} (h : a < 132) : zy_mix A B a k = A a k := by
  unfold zy_mix
  have : Nat.blt a 132 = true := by simp [Nat.blt]; omega
  rw [this]; rfl
theorem zy_mix_hi {A B : Nat → Nat → Int32} {a k : Nat} (h : 132 ≤ a) : zy_mix A B a k = B a k := by
  unfold zy_mix
  have : Nat.blt a 132 = false := by cases z : Nat.blt a 132 with
    | false => rfl
    | true => simp [Nat.blt] at z; omega
  rw [this]; rfl
theorem zy_mix_self {A : Nat → Nat → Int32} : zy_mix A A = A := by
  funext a k
  unfold zy_mix
  cases Nat.blt a 132 <;> rfl
theorem zy_mix_eq {A A' B : Nat → Nat → Int32} (h1 : ∀ a k, a < 132 → A' a k = A a k) (h2 : ∀ a k, 132 ≤ a → A' a k = B a k) : A' = zy_mix A B := by
  funext a k
  by_cases h : a < 132
  · rw [zy_mix_lo h, h1 a k h]
  · rw [zy_mix_hi (by omega), h2 a k (by omega)]
theorem zy_co_loc {I I' : Nat → Nat → Int32} {x : Int32} {c r m : Nat} (h : ∀ a k, a < 132 → I a k = I' a k) {a k : Nat} (ha : a < 132) : zy_co I x c r m a k = zy_co I' x c r m a k := by
  unfold zy_co zy_lg0 zx_u2 zy_ch
  simp only [h 8 _ (by omega), h 9 _ (by omega), h 10 _ (by omega), h a k ha]
theorem zy_mc_loc {I I' : Nat → Nat → Int32} {x : Int32} {c P m : Nat} (h : ∀ a k, 132 ≤ a → I a k = I' a k) {a k : Nat} (ha : 132 ≤ a) : zy_mc I x c P m a k = zy_mc I' x c P m a k := by
  unfold zy_mc zy_ns zy_ch
  simp only [h 135 _ (by omega), h 136 _ (by omega), h a _ ha]
/-- a call on both sides, apart -/
theorem zs_call {J : Nat → Nat → Int32} {P S b r cd : Nat} {H : List (Nat × Nat)} (hC : zc_C J P S b r H) (hcd : cd < 5764801) (h0 : cd ≠ 0) (hdig : zy_dig cd = true) :
    ∃ (v : Int32) (J' : Nat → Nat → Int32) (S' r' : Nat) (H' : List (Nat × Nat)), zc_C J' P S' b r' H' ∧ zy_fr zw_C J J' ∧ (v = -2 ∨ ∃ c : Nat, c < 1024 ∧ v = nI c) ∧
    (∀ (l : Launch) (E : zx_E) (d : Nat) (X : Nat → Nat → Int32) (L : Nat → Nat → Int64) (Y : zx_Y) (Q : Int32 → zx_M → Prop), zx_lay Y → Q v (zy_mix J' X, L, Y) → zx_Ci l E (d + 2) 9 [.ref 8, .int (nI cd)] (zy_mix J X, L, Y) Q) ∧
    (∀ (l : Launch) (E : zx_E) (d : Nat) (X : Nat → Nat → Int32) (L : Nat → Nat → Int64) (Y : zx_Y) (Q : Int32 → zx_M → Prop), zx_lay Y → Q v (zy_mix X J', L, Y) → zx_Ci l E (d + 2) 191 [.ref 132, .int (nI cd)] (zy_mix X J, L, Y) Q) := by
  have hC0 := hC
  have hwho := zc_who hC (x := nI cd) (fun q => h0 ((zy_eq0 (by omega)).mp q))
  obtain ⟨⟨hP, h7, h3⟩, his, hn, hz, ⟨hS, h8⟩, ⟨hb1, hb2, hb3, hb4⟩, ⟨hr, h6, hl, h5, h10⟩, hlog, hch⟩ := hC
  generalize hc : zy_orN (fun p => decide (J 9 p = nI cd)) 10 = c at hwho
  have hlt : c < 1024 := by rw [← hc]; exact zy_orN10 _ (Nat.le_refl _)
  by_cases g1 : b < zy_pop c
  · refine ⟨-2, J, S, r, H, hC0, zy_fr_rf _ _, Or.inl rfl, fun l E d X L Y Q hY hq => ?_, fun l E d X L Y Q hY hq => ?_⟩
    · exact zy_c9 (I := zy_mix J X) hY hr hl h6 h5 hb2 hb3 hc.symm (by rw [if_pos g1]; exact hq)
    · exact zy_191 (I := zy_mix X J) hY hP h3 hl h10 hb2 hb4 hwho.symm (by rw [if_pos g1]; exact hq)
  · by_cases g2 : c = 0
    · refine ⟨0, J, S, r, H, hC0, zy_fr_rf _ _, Or.inr ⟨0, by omega, rfl⟩, fun l E d X L Y Q hY hq => ?_, fun l E d X L Y Q hY hq => ?_⟩
      · exact zy_c9 (I := zy_mix J X) hY hr hl h6 h5 hb2 hb3 hc.symm (by rw [if_neg g1, if_pos g2]; exact hq)
      · exact zy_191 (I := zy_mix X J) hY hP h3 hl h10 hb2 hb4 hwho.symm (by rw [if_neg g1, if_pos g2]; exact hq)
    · refine ⟨nI c, _, _, _, _, zc_call hC0 hcd h0 hdig hc.symm, zy_fr_tr zy_co_fr (zy_mc_fr hP hl), Or.inr ⟨c, hlt, rfl⟩, fun l E d X L Y Q hY hq => ?_, fun l E d X L Y Q hY hq => ?_⟩
      · refine zy_c9 (I := zy_mix J X) hY hr hl h6 h5 hb2 hb3 hc.symm ?_
        rw [if_neg g1, if_neg g2]
        have e : zy_co (zy_mix J X) (nI cd) c r H.length = zy_mix (zy_mc (zy_co J (nI cd) c r H.length) (nI cd) c P H.length) X := by
          refine zy_mix_eq (fun a k ha => ?_) (fun a k ha => ?_)
          · rw [zy_mc_el (by omega)]
            exact zy_co_loc (fun a k h => zy_mix_lo h) ha
          · rw [zy_co_el (by omega), zy_mix_hi ha]
        rw [e]; exact hq
      · refine zy_191 (I := zy_mix X J) hY hP h3 hl h10 hb2 hb4 hwho.symm ?_
        rw [if_neg g1, if_neg g2]
        have e : zy_mc (zy_mix X J) (nI cd) c P H.length = zy_mix X (zy_mc (zy_co J (nI cd) c r H.length) (nI cd) c P H.length) := by
          refine zy_mix_eq (fun a k ha => ?_) (fun a k ha => ?_)
          · rw [zy_mc_el (by omega), zy_mix_lo ha]
          · refine zy_mc_loc (fun a k h => ?_) ha
            rw [zy_mix_hi h, zy_co_el (by omega)]
        rw [e]; exact hq
/-! ===== draws, season ===== -/
def zy_clr : Nat → Nat → Nat
  | 0, c => c
  | n + 1, c => zy_clr n (c &&& (c - 1))
def zy_nthf (p : Nat → Bool) : Nat → Nat → Nat → Nat
  | 0, _, _ => 32
  | m + 1, i, n => if p i then (if n = 0 then i else zy_nthf p m (i + 1) (n - 1)) else zy_nthf p m (i + 1) n
theorem zy_nth_all : ((List.range 1024).all fun c => (List.range 10).all fun n => !(decide (n < zy_pop c)) || (decide (zy_low (zy_clr n c) = zy_nthf (fun i => c.testBit i) 10 0 n) && (decide (zy_low (zy_clr n c) < 10) && (c.testBit (zy_low (zy_clr n c)))))) = true := by decide +kernel
theorem zy_nth {c n : Nat} (hc : c < 1024) (hn : n < zy_pop c) : zy_low (zy_clr n c) = zy_nthf (fun i => c.testBit i) 10 0 n ∧ zy_low (zy_clr n c) < 10 ∧ c.testBit (zy_low (zy_clr n c)) = true := by
  have h := List.all_eq_true.mp (List.all_eq_true.mp zy_nth_all c (List.mem_range.mpr hc)) n (List.mem_range.mpr (by have := zy_pop_le hc; omega))
  rw [decide_eq_true hn] at h
  simp only [Bool.not_true, Bool.false_or, Bool.and_eq_true, decide_eq_true_eq] at h
  exact ⟨h.1, h.2.1, h.2.2⟩
theorem zy_nthf_cong {p q : Nat → Bool} : ∀ (m i n : Nat), (∀ j, i ≤ j → j < i + m → p j = q j) → zy_nthf p m i n = zy_nthf q m i n
  | 0, _, _, _ => rfl
  | m + 1, i, n, h => by
    rw [zy_nthf, zy_nthf, h i (by omega) (by omega), zy_nthf_cong m (i + 1) (n - 1) (fun j h1 h2 => h j (by omega) (by omega)), zy_nthf_cong m (i + 1) n (fun j h1 h2 => h j (by omega) (by omega))]
theorem zy_clr_all : ((List.range 1024).all fun c => decide (nI c &&& (nI c - 1) = nI (c &&& (c - 1))) && decide (c &&& (c - 1) < 1024)) = true := by decide +kernel
theorem zy_clr1 {c : Nat} (hc : c < 1024) : nI c &&& (nI c - 1) = nI (c &&& (c - 1)) ∧ c &&& (c - 1) < 1024 := by
  have h := List.all_eq_true.mp zy_clr_all c (List.mem_range.mpr hc)
  simp only [Bool.and_eq_true, decide_eq_true_eq] at h
  exact h
/-- the next random number, what is drawn of n -/
def zy_rnd (x : Int32) : Int32 := x * 1103515245 + 12345
def zy_drw (x : Int32) (n : Nat) : Nat := (zy_rnd x).toBitVec.toNat / 65536 % n
theorem zy_drw_ok {x : Int32} {n : Nat} (h0 : 0 < n) (hn : n ≤ 10) : ((zy_rnd x).toUInt32 >>> ((16 : Int32).toUInt32 &&& Int32.toUInt32 31)).toInt32 - ((zy_rnd x).toUInt32 >>> ((16 : Int32).toUInt32 &&& Int32.toUInt32 31)).toInt32 / nI n * nI n = nI (zy_drw x n) := by
  have e := pk_ushr (zy_rnd x) 16 16 (by decide)
  have hlt : (zy_rnd x).toBitVec.toNat < 2 ^ 32 := (zy_rnd x).toBitVec.isLt
  have e2 : ((zy_rnd x).toUInt32 >>> ((16 : Int32).toUInt32 &&& Int32.toUInt32 31)).toInt32 = nI ((zy_rnd x).toBitVec.toNat / 65536) := by
    apply Int32.toBitVec_inj.mp
    apply BitVec.eq_of_toNat_eq
    rw [e, pk_tn (by omega)]
  rw [e2, pk_rem (by omega) h0 (by omega)]
  rfl
section YSe
variable {l : Launch} {E : zx_E} {d : Nat} {I : Nat → Nat → Int32} {L : Nat → Nat → Int64} {Y : zx_Y} {Qo : Option Value → zx_M → Prop} {Q : Int32 → zx_M → Prop} {Qv : zx_M → Prop}
theorem zy_c14 (hY : zx_lay Y) {c : Nat} (hc : c = zy_orN (fun p => decide (I 9 p ≠ 0)) 10) (h0 : c ≠ 0) (hq : Q (I 9 (zy_low (zy_clr (zy_drw (I 8 10) (zy_pop c)) c))) (zx_u2 I 8 10 (zy_rnd (I 8 10)), L, Y)) : zx_Ci l E (d + 1) 14 [.ref 8] (I, L, Y) Q := by
  have hlt : c < 1024 := by rw [hc]; exact zy_orN10 _ (Nat.le_refl _)
  have hp0 : 0 < zy_pop c := Nat.pos_of_ne_zero (fun q => h0 ((zy_pop_0 hlt).mp q))
  have hp10 := zy_pop_le hlt
  have hdr : zy_drw (I 8 10) (zy_pop c) < zy_pop c := Nat.mod_lt _ hp0
  obtain ⟨t1, t2, t3⟩ := zy_nth hlt hdr
  rw [t1] at hq
  rw [t1] at t2
  refine sg_14_0 hY (zy_c4 hY ⟨hY, ?_⟩)
  rw [zy_or_nI _ 10 (by omega), ← hc]
  refine zy_266 hY hlt ⟨hY, sg_13_0 hY _ ⟨fun h => absurd ((zy_le0 (by omega)).mp h) (by omega), fun _ => ⟨fun h => absurd ((zy_eq0 (by omega)).mp h) (by omega), _, rfl, hY, ?_⟩⟩⟩
  have e := zy_drw_ok (x := I 8 10) hp0 hp10
  unfold zy_rnd at e
  show zx_To l E (d + 1) 14 14 [some (.ref 8), some (.int (((I 8 10 * 1103515245 + 12345).toUInt32 >>> ((16 : Int32).toUInt32 &&& Int32.toUInt32 31)).toInt32 - ((I 8 10 * 1103515245 + 12345).toUInt32 >>> ((16 : Int32).toUInt32 &&& Int32.toUInt32 31)).toInt32 / nI (zy_pop c) * nI (zy_pop c))), some (.int 0)] [] (zx_u2 I 8 10 (zy_rnd (I 8 10)), L, Y) _
  rw [e]
  have hbit : ∀ p, p < 10 → c.testBit p = decide (I 9 p ≠ 0) := fun p hp => by rw [hc, zy_orN_bit, decide_eq_true hp, Bool.true_and]
  rw [zy_nthf_cong (q := fun p => decide (I 9 p ≠ 0)) 10 0 _ (fun j _ hj => hbit j (by omega))] at hq t2
  generalize zy_drw (I 8 10) (zy_pop c) = n at hdr hq t2
  have hn10 : n < 10 := by omega
  have loop : ∀ m i n, m + i = 10 → n < 10 → zy_nthf (fun p => decide (I 9 p ≠ 0)) m i n < 10 → Q (I 9 (zy_nthf (fun p => decide (I 9 p ≠ 0)) m i n)) (zx_u2 I 8 10 (zy_rnd (I 8 10)), L, Y) → zx_To l E (d + 1) 14 14 [some (.ref 8), some (.int (nI n)), some (.int (nI i))] [] (zx_u2 I 8 10 (zy_rnd (I 8 10)), L, Y) (fun r M' => ∃ v, r = some (.int v) ∧ Q v M') := by
    intro m
    induction m with
    | zero => intro i n _ _ h; rw [zy_nthf] at h; omega
    | succ m ih =>
      intro i n hi hn h1 h2
      rw [zy_nthf] at h1 h2
      have hv := vp_in_nI (n := i) (N := 10) (by omega) (by omega)
      refine sg_14_14 hY _ _ ⟨fun h => absurd ((zy_10 (by omega)).mp h) (by omega), fun _ => ⟨hv, ?_⟩⟩
      rw [nI_clamp (by omega), zy_u2_na (by omega), nI_1, zy_eq0 (by omega)]
      refine ⟨fun h => ?_, fun h => ⟨fun h3 => ?_, fun h3 => ⟨hv, _, rfl, ?_⟩⟩⟩
      · rw [if_neg (by simpa using h)] at h1 h2
        exact ih (i + 1) n (by omega) hn h1 h2
      · rw [if_pos (by simpa using h), if_neg h3] at h1 h2
        have := ih (i + 1) (n - 1) (by omega) (by omega) h1 h2
        rw [show n = n - 1 + 1 by omega, zy_m1]; exact this
      · rw [if_pos (by simpa using h), if_pos h3] at h2
        exact h2
  exact loop 10 0 n rfl hn10 t2 hq
/-- who has no name -/
theorem zy_who0 {P : Nat} {q : Nat → Bool} : zy_orN (fun p => !q p) P = 2 ^ P - 1 - zy_orN q P := zy_orN_not P
def zw_N2 : List (Nat × Nat × Nat) := (8, 10, 11) :: (132, 9, 10) :: zw_C
theorem zs_season {n : Nat} (hn : n ≤ 200) : ∀ (m i : Nat) (bar : Int32) (J : Nat → Nat → Int32) (P S b r : Nat) (H : List (Nat × Nat)), m + i = n → zc_C J P S b r H → zc_N J →
    ∃ (k : Nat) (bar' w : Int32) (J' : Nat → Nat → Int32) (S' r' : Nat) (H' : List (Nat × Nat)), zc_C J' P S' b r' H' ∧ zc_N J' ∧ zy_fr zw_N2 J J' ∧
    (∀ (l : Launch) (E : zx_E) (d : Nat) (X : Nat → Nat → Int32) (L : Nat → Nat → Int64) (Y : zx_Y) (Q : Option Value → zx_M → Prop), zx_lay Y → Q (some (.int (nI k))) (zy_tell (zy_mix J' X) [bar', w], L, Y) → zx_To l E (d + 3) 131 20 [some (.ref 3), some (.int (nI n)), some (.int (nI i)), some (.int bar), some (.int (nI i))] [] (zy_mix J X, L, Y) Q) ∧
    (∀ (l : Launch) (E : zx_E) (d : Nat) (X : Nat → Nat → Int32) (L : Nat → Nat → Int64) (Y : zx_Y) (Q : Option Value → zx_M → Prop), zx_lay Y → Q (some (.int (nI k))) (zy_ent (zy_mix X J') [bar', w], L, Y) → zx_To l E (d + 3) 212 23 [some (.ref 132), some (.int (nI n)), some (.int (nI i)), some (.int bar), none, none] [] (zy_mix X J, L, Y) Q) := by
  -- the end: class
  have endC : ∀ (J : Nat → Nat → Int32) (P S b r : Nat) (H : List (Nat × Nat)), zc_C J P S b r H → ∀ (bar : Int32) (l : Launch) (E : zx_E) (d : Nat) (X : Nat → Nat → Int32) (L : Nat → Nat → Int64) (Y : zx_Y) (K : zx_M → Prop), zx_lay Y → K (zy_tell (zy_mix J X) [bar, nI (zy_orN (fun p => decide (J 134 p = 0)) P)], L, Y) →
      zx_Cv l E (d + 2) 81 [.ref 6] (zy_mix J X, L, Y) (fun M1 => zx_lay M1.2.2 ∧ zx_Cv l E (d + 2) 82 [.ref 6, .int bar] (M1.1, M1.2.1, M1.2.2) (fun M2 => zx_lay M2.2.2 ∧ zx_Ci l E (d + 2) 3 [.ref 8] (M2.1, M2.2.1, M2.2.2) (fun v4 M3 => zx_lay M3.2.2 ∧ zx_Ci l E (d + 2) 4 [.ref 8] (M3.1, M3.2.1, M3.2.2) (fun v6 M5 => zx_lay M5.2.2 ∧ zx_Cv l E (d + 2) 82 [.ref 6, .int (v4 &&& (v6 ^^^ (-1)))] (M5.1, M5.2.1, M5.2.2) (fun M7 => zx_lay M7.2.2 ∧ K (M7.1, M7.2.1, M7.2.2)))))) := by
    intro J P S b r H hC bar l E d X L Y K hY hK
    have hnm := zc_named hC
    obtain ⟨⟨hP, h7, h3⟩, his, hn, hz, ⟨hS, h8⟩, -⟩ := hC
    refine zy_81 hY ⟨hY, zy_82 hY (by simp) ⟨hY, sg_3_0 hY ⟨_, rfl, hY, zy_c4 hY ⟨hY, ?_⟩⟩⟩⟩
    have e : zy_or (fun p => decide (zy_tell (zy_mix J X) ([] ++ [bar]) 9 p ≠ 0)) 10 = nI (zy_orN (fun p => decide (J 134 p ≠ 0)) P) := by rw [zy_or_nI _ 10 (by omega), hnm]; rfl
    show zx_Cv l E (d + 2) 82 [.ref 6, .int (((1 : Int32) <<< (J 8 7 &&& 31)) - 1 &&& (zy_or (fun p => decide (zy_tell (zy_mix J X) ([] ++ [bar]) 9 p ≠ 0)) 10 ^^^ (-1)))] (zy_tell (zy_mix J X) [bar], L, Y) _
    rw [e, h7, zy_andn hP (zy_orN_lt _ P), ← zy_orN_not]
    refine zy_82 hY (by simp) ⟨hY, ?_⟩
    have e2 : zy_orN (fun p => !decide (J 134 p ≠ 0)) P = zy_orN (fun p => decide (J 134 p = 0)) P := zy_orN_cong (fun p _ => by simp)
    rw [e2]
    exact hK
  have endM : ∀ (J : Nat → Nat → Int32) (P S b r : Nat) (H : List (Nat × Nat)), zc_C J P S b r H → ∀ (bar : Int32) (l : Launch) (E : zx_E) (d : Nat) (X : Nat → Nat → Int32) (L : Nat → Nat → Int64) (Y : zx_Y) (K : zx_M → Prop), zx_lay Y → K (zy_ent (zy_mix X J) [bar, nI (zy_orN (fun p => decide (J 134 p = 0)) P)], L, Y) →
      zx_Cv l E (d + 2) 170 [.ref 132, .int bar] (zx_u2 (zy_mix X J) 132 1 0, L, Y) (fun M1 => zx_lay M1.2.2 ∧ zx_Ci l E (d + 2) 189 [.ref 132, .int 0] (M1.1, M1.2.1, M1.2.2) (fun v3 M2 => zx_lay M2.2.2 ∧ zx_Cv l E (d + 2) 170 [.ref 132, .int v3] (M2.1, M2.2.1, M2.2.2) (fun M4 => zx_lay M4.2.2 ∧ K (M4.1, M4.2.1, M4.2.2)))) := by
    intro J P S b r H hC bar l E d X L Y K hY hK
    obtain ⟨⟨hP, h7, h3⟩, -⟩ := hC
    rw [zy_ent_nil]
    refine zy_170 hY (by simp) ⟨hY, zy_189 hY hP (show zy_ent (zy_mix X J) ([] ++ [bar]) 132 3 = nI P by rw [zy_ent_el (by omega)]; exact h3) ⟨hY, ?_⟩⟩
    have e : zy_or (fun p => decide (zy_ent (zy_mix X J) ([] ++ [bar]) 134 p = 0)) P = nI (zy_orN (fun p => decide (J 134 p = 0)) P) := by
      rw [zy_or_nI _ P (by omega)]; rfl
    rw [e]
    exact zy_170 hY (by simp) ⟨hY, hK⟩
  intro m
  induction m with
  | zero =>
    intro i bar J P S b r H hi hC hN
    refine ⟨i, bar, nI (zy_orN (fun p => decide (J 134 p = 0)) P), J, S, r, H, hC, hN, zy_fr_rf _ _, fun l E d X L Y Q hY hq => ?_, fun l E d X L Y Q hY hq => ?_⟩
    · exact sg_131_20 hY _ _ _ _ ⟨fun _ => endC J P S b r H hC bar l E d X L Y _ hY hq, fun h => absurd ((nI_leI (by omega) (by omega)).mpr (by omega)) h⟩
    · exact sg_212_23 hY _ _ _ ⟨fun _ => endM J P S b r H hC bar l E d X L Y _ hY hq, fun h => absurd ((nI_leI (by omega) (by omega)).mpr (by omega)) h⟩
  | succ m ih =>
    intro i bar J P S b r H hi hC hN
    have hnm := zc_named hC
    obtain ⟨f, n1, n2, n3, n4⟩ := zc_nm hC
    have hP : P ≤ 10 := hC.1.1
    have h3 : J 132 3 = nI P := hC.1.2.2
    generalize hc : zy_orN (fun p => decide (J 9 p ≠ 0)) 10 = c at hnm
    have hlt : c < 1024 := by rw [← hc]; exact zy_orN10 _ (Nat.le_refl _)
    by_cases h0 : c = 0
    · refine ⟨i, bar, nI (zy_orN (fun p => decide (J 134 p = 0)) P), J, S, r, H, hC, hN, zy_fr_rf _ _, fun l E d X L Y Q hY hq => ?_, fun l E d X L Y Q hY hq => ?_⟩
      · refine sg_131_20 hY _ _ _ _ ⟨fun h => absurd ((nI_leI (by omega) (by omega)).mp h) (by omega), fun _ => zy_c4 hY ⟨hY, fun _ => endC J P S b r H hC bar l E d X L Y _ hY hq, fun h => absurd ?_ h⟩⟩
        rw [zy_or_nI _ 10 (by omega)]
        show nI (zy_orN (fun p => decide (J 9 p ≠ 0)) 10) = 0
        rw [hc, h0]; rfl
      · refine sg_212_23 hY _ _ _ ⟨fun h => absurd ((nI_leI (by omega) (by omega)).mp h) (by omega), fun _ => zy_211 (I := zy_mix X J) hY hP h3 ⟨hY, fun _ => endM J P S b r H hC bar l E d X L Y _ hY hq, fun h => absurd ?_ h⟩⟩
        show nI (zy_orN (fun p => decide (J 134 p ≠ 0)) P) = 0
        rw [hnm, h0]; rfl
    · have hp0 : 0 < zy_pop c := Nat.pos_of_ne_zero (fun q => h0 ((zy_pop_0 hlt).mp q))
      have hp10 := zy_pop_le hlt
      have hdr : zy_drw (J 8 10) (zy_pop c) < zy_pop c := Nat.mod_lt _ hp0
      obtain ⟨t1, t2, t3⟩ := zy_nth hlt hdr
      have hbit : ∀ p, p < 10 → c.testBit p = decide (J 9 p ≠ 0) := fun p hp => by rw [← hc, zy_orN_bit, decide_eq_true hp, Bool.true_and]
      generalize hq' : zy_low (zy_clr (zy_drw (J 8 10) (zy_pop c)) c) = q at t1 t2 t3
      have hq9 : J 9 q ≠ 0 := by rw [hbit q t2, decide_eq_true_eq] at t3; exact t3
      have hqP : q < P := by
        by_cases z : q < P
        · exact z
        · exact absurd (hC.2.2.2.1 q (by omega) t2).1 hq9
      have e9 := n1 q t2
      have hf0 : f q ≠ 0 := fun z => hq9 (by rw [e9.1, z]; rfl)
      -- the memory with the new random number
      have hJ1 : zc_C (zx_u2 (zx_u2 J 8 10 (zy_rnd (J 8 10))) 132 9 (zy_rnd (J 8 10))) P S b r H := zc_C_cong hC (zy_fr_on (W := [(8, 10, 11), (132, 9, 10)]) (zy_fr_u2 (zy_fr_u2 (zy_fr_rf _ _) (zy_in_at 0 8 10 11 10 rfl (by omega) (by omega))) (zy_in_at 1 132 9 10 9 rfl (by omega) (by omega))) (by decide))
      have fr1 : zy_fr zw_N2 J (zx_u2 (zx_u2 J 8 10 (zy_rnd (J 8 10))) 132 9 (zy_rnd (J 8 10))) := zy_fr_u2 (zy_fr_u2 (zy_fr_rf _ _) (zy_in_at 0 8 10 11 10 rfl (by omega) (by omega))) (zy_in_at 1 132 9 10 9 rfl (by omega) (by omega))
      have nN : zc_N (zx_u2 (zx_u2 J 8 10 (zy_rnd (J 8 10))) 132 9 (zy_rnd (J 8 10))) := by unfold zc_N; rw [zy_u2_self, zy_u2_ne (by omega), zy_u2_self]
      have mx1 : ∀ X, zx_u2 (zy_mix J X) 8 10 (zy_rnd (J 8 10)) = zy_mix (zx_u2 (zx_u2 J 8 10 (zy_rnd (J 8 10))) 132 9 (zy_rnd (J 8 10))) X := fun X => by
        refine zy_mix_eq (fun a k ha => ?_) (fun a k ha => ?_)
        · rw [zy_u2_na (i := 132) (by omega)]; unfold zx_u2; rw [zy_mix_lo ha]
        · rw [zy_u2_na (by omega), zy_mix_hi ha]
      have mx2 : ∀ X, zx_u2 (zy_mix X J) 132 9 (zy_rnd (J 8 10)) = zy_mix X (zx_u2 (zx_u2 J 8 10 (zy_rnd (J 8 10))) 132 9 (zy_rnd (J 8 10))) := fun X => by
        refine zy_mix_eq (fun a k ha => ?_) (fun a k ha => ?_)
        · rw [zy_u2_na (by omega), zy_mix_lo ha]
        · by_cases z : a = 132 ∧ k = 9
          · rw [z.1, z.2, zy_u2_self, zy_u2_self]
          · rw [zy_u2_ne z, zy_u2_ne z, zy_u2_na (by omega), zy_mix_hi ha]
      obtain ⟨v, J2, S2, r2, H2, hC2, fr2, hv, cC, cM⟩ := zs_call hJ1 e9.2 hf0 (n4 q t2)
      have nN2 : zc_N J2 := zc_N_cong nN (zy_fr_on fr2 (by decide))
      obtain ⟨k, bar', w, J3, S3, r3, H3, hC3, hN3, fr3, sC, sM⟩ := ih (i + 1) (if v = -2 then bar + 1 else bar) J2 P S2 b r2 H2 (by omega) hC2 nN2
      refine ⟨k, bar', w, J3, S3, r3, H3, hC3, hN3, zy_fr_tr (zy_fr_tr fr1 (zy_fr_mono fr2 (by decide))) fr3, fun l E d X L Y Q hY hq => ?_, fun l E d X L Y Q hY hq => ?_⟩
      · refine sg_131_20 hY _ _ _ _ ⟨fun h => absurd ((nI_leI (by omega) (by omega)).mp h) (by omega), fun _ => zy_c4 hY ⟨hY, fun h => absurd ?_ h0, fun _ => ?_⟩⟩
        · rw [zy_or_nI _ 10 (by omega)] at h
          have h : nI (zy_orN (fun p => decide (J 9 p ≠ 0)) 10) = 0 := h
          rw [hc] at h
          exact (zy_eq0 (by omega)).mp h
        · refine zy_c14 (I := zy_mix J X) hY hc.symm h0 ⟨hY, ?_⟩
          show zx_Ci l E (d + 2) 9 [.ref 8, .int (J 9 (zy_low (zy_clr (zy_drw (J 8 10) (zy_pop c)) c)))] (zx_u2 (zy_mix J X) 8 10 (zy_rnd (J 8 10)), L, Y) _
          rw [hq', e9.1, mx1]
          refine cC l E d X L Y _ hY ⟨hY, fun h => ?_, fun h => ?_⟩
          · rw [nI_1]
            have := sC l E d X L Y Q hY hq
            rw [if_neg h] at this; exact this
          · rw [nI_1]
            have := sC l E d X L Y Q hY hq
            rw [if_pos h] at this; exact this
      · refine sg_212_23 hY _ _ _ ⟨fun h => absurd ((nI_leI (by omega) (by omega)).mp h) (by omega), fun _ => zy_211 (I := zy_mix X J) hY hP h3 ⟨hY, fun h => absurd ?_ h0, fun _ => zy_211 (I := zy_mix X J) hY hP h3 ⟨hY, ?_⟩⟩⟩
        · have h : nI (zy_orN (fun p => decide (J 134 p ≠ 0)) P) = 0 := h
          rw [hnm] at h
          exact (zy_eq0 (by omega)).mp h
        · show zx_Ci l E (d + 2) 266 [.int (nI (zy_orN (fun p => decide (J 134 p ≠ 0)) P))] (zy_mix X J, L, Y) _
          rw [hnm]
          refine zy_266 hY hlt ⟨hY, sg_210_0 hY _ ⟨fun h => absurd ((zy_eq0 (by omega)).mp h) (by omega), _, rfl, hY, ?_⟩⟩
          have e := zy_drw_ok (x := J 132 9) hp0 hp10
          unfold zy_rnd at e
          show zx_To l E (d + 3) 212 52 [some (.ref 132), some (.int (nI n)), some (.int (nI i)), some (.int bar), some (.int (nI (zy_orN (fun p => decide (J 134 p ≠ 0)) P))), some (.int (((J 132 9 * 1103515245 + 12345).toUInt32 >>> ((16 : Int32).toUInt32 &&& Int32.toUInt32 31)).toInt32 - ((J 132 9 * 1103515245 + 12345).toUInt32 >>> ((16 : Int32).toUInt32 &&& Int32.toUInt32 31)).toInt32 / nI (zy_pop c) * nI (zy_pop c)))] [] (zx_u2 (zy_mix X J) 132 9 (zy_rnd (J 132 9)), L, Y) Q
          rw [e, hnm, hN, mx2]
          have loop : ∀ n' c', c' < 1024 → n' < 10 → zy_low (zy_clr n' c') = q → zx_To l E (d + 3) 212 52 [some (.ref 132), some (.int (nI n)), some (.int (nI i)), some (.int bar), some (.int (nI c')), some (.int (nI n'))] [] (zy_mix X (zx_u2 (zx_u2 J 8 10 (zy_rnd (J 8 10))) 132 9 (zy_rnd (J 8 10))), L, Y) Q := by
            intro n'
            induction n' with
            | zero =>
              intro c' hc' _ hl
              have hl : zy_low c' = q := hl
              refine sg_212_52 hY _ _ _ _ _ ⟨fun _ => zy_265 hY hc' ⟨hY, ?_⟩, fun h => absurd ((zy_le0 (by omega)).mpr rfl) h⟩
              rw [hl, nI_clamp (by omega)]
              refine ⟨vp_in_nI t2 (by omega), ?_⟩
              show zx_Ci l E (d + 2) 191 [.ref 132, .int (J 134 q)] (zy_mix X (zx_u2 (zx_u2 J 8 10 (zy_rnd (J 8 10))) 132 9 (zy_rnd (J 8 10))), L, Y) _
              rw [(n2 q hqP).1]
              refine cM l E d X L Y _ hY ⟨hY, fun h => zy_169b (b := false) hY ⟨hY, ?_⟩, fun h => zy_169b (b := true) hY ⟨hY, ?_⟩⟩
              · have hv2 : v ≠ -2 := fun z => by rw [z] at h; exact absurd h (by decide)
                have := sM l E d X L Y Q hY hq
                rw [if_neg hv2] at this
                show zx_To l E (d + 3) 212 23 [some (.ref 132), some (.int (nI n)), some (.int (nI i + 1)), some (.int (bar + 0)), none, none] [] (zy_mix X J2, L, Y) Q
                rw [nI_1, Int32.add_zero]; exact this
              · have hv2 : v = -2 := by
                  rcases hv with z | ⟨c2, z1, z2⟩
                  · exact z
                  · rw [z2] at h; exact absurd (nI_pos' (by omega)) h
                have := sM l E d X L Y Q hY hq
                rw [if_pos hv2] at this
                rw [nI_1]; exact this
            | succ n' ihn =>
              intro c' hc' hn' hl
              obtain ⟨z1, z2⟩ := zy_clr1 hc'
              refine sg_212_52 hY _ _ _ _ _ ⟨fun h => absurd ((zy_le0 (by omega)).mp h) (by omega), fun _ => ?_⟩
              rw [z1, zy_m1]
              exact ihn _ z2 (by omega) hl
          exact loop _ c hlt (by omega) hq'
def zw_E : List (Nat × Nat × Nat) := zw_N2 ++ zw_R
theorem zj_season (hY : zx_lay Y) {P S b r : Nat} {H : List (Nat × Nat)} {vs : List Int32} (hC : zc_C I P S b r H) (hN : zc_N I) (hR : zc_R I vs) {x : Int32}
    (hq : ∀ v I' S' r' H' vs', zc_C I' P S' b r' H' → zc_N I' → zc_R I' vs' → zy_fr zw_E I I' → Q v (I', L, Y)) :
    zx_Ci l E (d + 3) 131 [.ref 3, .int x] (I, L, Y) (fun v M1 => zx_lay M1.2.2 ∧ zx_Ci l E (d + 3) 212 [.ref 132, .int x] M1 (fun w M2 => w = v ∧ Q v M2)) := by
  have e200 : (200 : Int32).toInt = 200 := by decide
  have no : ¬ (0 ≤ x.toInt ∧ x.toInt ≤ 200) → zx_Ci l E (d + 3) 212 [.ref 132, .int x] (I, L, Y) (fun w M2 => w = -1 ∧ Q (-1) M2) := fun h => by
    refine sg_212_0 hY _ (zy_167i hY (b := decide (0 ≤ x.toInt ∧ x.toInt ≤ 200)) rfl ⟨hY, fun h2 => ?_, fun _ => ⟨_, rfl, rfl, hq _ _ S r H vs (zc_C_cong hC (zy_fr_on zy_thr_fr (by decide))) (zc_N_cong hN (zy_fr_on zy_thr_fr (by decide))) (zc_R_cong hR (zy_fr_on zy_thr_fr (by decide))) (zy_fr_mono zy_thr_fr (by decide))⟩⟩)
    rw [zy_b1, decide_eq_true_eq] at h2; exact absurd h2 h
  refine sg_131_0 hY _ ⟨fun h => ⟨_, rfl, hY, no ?_⟩, fun h => ⟨fun h2 => ?_, fun h2 => ⟨_, rfl, hY, no ?_⟩⟩⟩
  · rw [Int32.lt_iff_toInt_lt, zy_i0] at h; omega
  · obtain ⟨n, hn, rfl⟩ := nI_of h
    have hn2 : n ≤ 200 := (nI_leI (b := 200) hn (by omega)).mp h2
    have hC1 := zc_C_cong hC (zy_fr_on (zy_thr_fr (v := 0)) (by decide))
    have hN1 := zc_N_cong hN (zy_fr_on (zy_thr_fr (v := 0)) (by decide))
    obtain ⟨k, bar', w, J', S', r', H', hC', hN', fr, sC, sM⟩ := zs_season hn2 n 0 0 (zx_u2 I 132 0 0) P S b r H rfl hC1 hN1
    have e1 := sC l E d I L Y (fun rr M' => ∃ v, rr = some (.int v) ∧ (zx_lay M'.2.2 ∧ zx_Ci l E (d + 3) 212 [.ref 132, .int (nI n)] M' (fun w M2 => w = v ∧ Q v M2))) hY
    have m0 : zy_mix (zx_u2 I 132 0 0) I = I := (zy_mix_eq (fun a k ha => by rw [zy_u2_na (by omega)]) (fun _ _ _ => rfl)).symm
    rw [m0] at e1
    refine e1 ⟨_, rfl, hY, ?_⟩
    refine sg_212_0 hY _ (zy_167i hY (b := true) ?_ ⟨hY, fun _ => ?_, fun h => absurd h (by decide)⟩)
    · rw [nI_toInt hn]
      have : ((0 : Int64).toInt ≤ (n : Int) ∧ (n : Int) ≤ (200 : Int64).toInt) := by
        have a1 : (0 : Int64).toInt = 0 := by decide
        have a2 : (200 : Int64).toInt = 200 := by decide
        omega
      rw [decide_eq_true this]
    · have mx : zx_u2 (zy_tell (zy_mix J' I) [bar', w]) 132 0 0 = zy_mix (zy_tell J' [bar', w]) (zx_u2 I 132 0 0) := by
        refine zy_mix_eq (fun a k ha => ?_) (fun a k ha => ?_)
        · rw [zy_u2_na (by omega)]; unfold zy_tell; rw [zy_mix_lo ha]
        · by_cases z : a = 132 ∧ k = 0
          · rw [z.1, z.2, zy_u2_self, zy_u2_self]
          · rw [zy_u2_ne z, zy_u2_ne z, zy_tell_el (by omega), zy_mix_hi ha]
      show zx_To l E (d + 3) 212 23 [some (.ref 132), some (.int (nI n)), some (.int 0), some (.int 0), none, none] [] (zx_u2 (zy_tell (zy_mix J' I) [bar', w]) 132 0 0, L, Y) _
      rw [mx]
      refine sM l E d (zy_tell J' [bar', w]) L Y _ hY ⟨_, rfl, rfl, ?_⟩
      have m1 : zy_mix (zy_tell J' [bar', w]) J' = zy_tell J' [bar', w] := (zy_mix_eq (fun _ _ _ => rfl) (fun a k ha => zy_tell_el (by omega))).symm
      rw [m1]
      have frR : zy_fr zw_R J' (zy_ent (zy_tell J' [bar', w]) [bar', w]) := zy_ent_fr (zy_tell_fr (zy_fr_rf _ _) (by simp)) (by simp)
      refine hq _ _ S' r' H' [bar', w] (zc_C_cong hC' (zy_fr_on frR (by decide))) (zc_N_cong hN' (zy_fr_on frR (by decide))) (zc_R_tell (I := J') (by simp) (fun _ _ _ => rfl)) ?_
      exact zy_fr_tr (zy_fr_tr (zy_fr_mono zy_thr_fr (by decide)) (zy_fr_mono fr (by decide))) (zy_fr_mono frR (by decide))
  · rw [Int32.le_iff_toInt_le, e200] at h2; omega
end YSe
