/-! ===== search: the class lines up ===== -/
theorem zs_27 {Y : zx_Y} (hY : zx_lay Y) {i : Nat} (hi : i < 10) : Y.1 27 i = some (28 + i) ∧ Y.1 38 i = some (39 + i) ∧ Y.1 49 i = some (50 + i) := by
  have h1 : ∀ i : Fin 10, zx_RF[37 + i.1]? = some (27, i.1, 28 + i.1) := by decide
  have h2 : ∀ i : Fin 10, zx_RF[47 + i.1]? = some (38, i.1, 39 + i.1) := by decide
  have h3 : ∀ i : Fin 10, zx_RF[57 + i.1]? = some (49, i.1, 50 + i.1) := by decide
  exact ⟨zx_lrf hY _ _ _ _ (h1 ⟨i, hi⟩), zx_lrf hY _ _ _ _ (h2 ⟨i, hi⟩), zx_lrf hY _ _ _ _ (h3 ⟨i, hi⟩)⟩
theorem zs_28 {I : Nat → Nat → Int32} {L : Nat → Nat → Int64} {Y : zx_Y} (hY : zx_lay Y) {i : Nat} (hi : i < 10) : (zx_is (I, L, Y) (28 + i) 20 ∧ zx_ln (I, L, Y) (28 + i) = 9) ∧ (zx_is (I, L, Y) (39 + i) 21 ∧ zx_ln (I, L, Y) (39 + i) = 9) ∧ zx_is (I, L, Y) (50 + i) 20 ∧ zx_ln (I, L, Y) (50 + i) = 9 := by
  have h1 : ∀ i : Fin 10, (Nat.ble 3 (28 + i.1) && Nat.blt (28 + i.1) 160) = true ∧ (Nat.ble 1 (28 + i.1) && Nat.blt (28 + i.1) 160) = true ∧ zx_KD.getD (28 + i.1) 0 = 20 ∧ zx_LN.getD (28 + i.1) 0 = 9 := by decide
  have h2 : ∀ i : Fin 10, (Nat.ble 3 (39 + i.1) && Nat.blt (39 + i.1) 160) = true ∧ (Nat.ble 1 (39 + i.1) && Nat.blt (39 + i.1) 160) = true ∧ zx_KD.getD (39 + i.1) 0 = 21 ∧ zx_LN.getD (39 + i.1) 0 = 9 := by decide
  have h3 : ∀ i : Fin 10, (Nat.ble 3 (50 + i.1) && Nat.blt (50 + i.1) 160) = true ∧ (Nat.ble 1 (50 + i.1) && Nat.blt (50 + i.1) 160) = true ∧ zx_KD.getD (50 + i.1) 0 = 20 ∧ zx_LN.getD (50 + i.1) 0 = 9 := by decide
  obtain ⟨a1, a2, a3, a4⟩ := h1 ⟨i, hi⟩
  obtain ⟨b1, b2, b3, b4⟩ := h2 ⟨i, hi⟩
  obtain ⟨c1, c2, c3, c4⟩ := h3 ⟨i, hi⟩
  exact ⟨⟨zx_lis hY _ _ a1 a3, zx_lln hY _ _ a2 a4⟩, ⟨zx_lis hY _ _ b1 b3, zx_lln hY _ _ b2 b4⟩, zx_lis hY _ _ c1 c3, zx_lln hY _ _ c2 c4⟩
theorem nI_m1 (j : Nat) : nI (j + 1) + (-1 : Int32) = nI j := by rw [zg_pd_add]; rfl
theorem zs_bt_put {M : Nat → Bool} {i : Nat} (hi : i < 10) (h : M i = false) : nL (zs_c 10 (zg_bt M)) ||| ((1 : Int64) <<< ((5 * nI i).toInt64 &&& 63)) = nL (zs_c 10 (zg_bt (fun j => M j || decide (j = i)))) := by
  have lv : 32 ^ i < 2 ^ 63 := by
    have h2 : 32 ^ i ≤ 32 ^ 9 := Nat.pow_le_pow_right (by omega) (by omega)
    have : (32 : Nat) ^ 9 < 2 ^ 63 := by decide
    omega
  have e := zs_one_c (v := 1) (p := i) (N := 10) hi
  rw [Nat.one_mul] at e
  rw [nL_one5 hi, nL_orr zs_bt_lt lv, ← e, zs_or zs_bt32 (fun j _ => by split <;> omega)]
  congr 1
  refine zs_c_cong (fun j _ => ?_)
  rw [zg_bt_b, zg_bt_b]
  by_cases z : j = i
  · rw [if_pos z, z, h, decide_eq_true rfl]; decide
  · rw [if_neg z, decide_eq_false z, Bool.or_false, Nat.or_zero]
/-- the region of the lineup -/
def zs_fi (I J : Nat → Nat → Int32) : Prop := ∀ a k, ¬ (23 ≤ a ∧ a ≤ 60) → J a k = I a k
def zs_fl (L K : Nat → Nat → Int64) : Prop := ∀ a k, ¬ (23 ≤ a ∧ a ≤ 60) → K a k = L a k
def zs_U1 (I : Nat → Nat → Int32) (f : Nat → Nat) (N : Nat) (π : Nat → Nat) : Prop := I 23 7 = nI N ∧ ∀ i, i < N → I 24 i = nI (π i) ∧ I 25 i = nI (f (π i))
def zs_U2 (I : Nat → Nat → Int32) (f π : Nat → Nat) (i : Nat) : Prop := I 26 i = nI (zy_len (f (π i))) ∧ ∀ l, l ≤ zy_len (f (π i)) → I (28 + i) l = nI (zy_pf (f (π i)) l)
/-- the places that share a beginning -/
def zs_sh (f : Nat → Nat) (N : Nat) (π : Nat → Nat) (i l : Nat) : Nat → Bool := fun j => decide (j < N) && (decide (l ≤ zy_len (f (π j))) && decide (zy_pf (f (π j)) l = zy_pf (f (π i)) l))
def zs_U3 (L : Nat → Nat → Int64) (f : Nat → Nat) (N : Nat) (π : Nat → Nat) (i : Nat) : Prop := ∀ l, 1 ≤ l → l ≤ zy_len (f (π i)) → L (39 + i) l = nL (zs_c 10 (zg_bt (zs_sh f N π i l)))
def zs_sf (I : Nat → Nat → Int32) (N j : Nat) : Nat → Nat → Int32 := fun a k => if (a = 24 ∨ a = 25) ∧ j < k ∧ k ≤ N then I a (k - 1) else I a k
theorem zs_sf_s {I : Nat → Nat → Int32} {N j : Nat} (hj : j + 1 ≤ N) : zx_u2 (zx_u2 (zs_sf I N (j + 1)) 24 (j + 1) (zs_sf I N (j + 1) 24 j)) 25 (j + 1) (zs_sf I N (j + 1) 25 j) = zs_sf I N j := by
  funext a k
  have e : ∀ a, zs_sf I N (j + 1) a j = I a j := fun a => by unfold zs_sf; rw [if_neg (by omega)]
  rw [e, e]
  unfold zx_u2
  by_cases h1 : a = 25 ∧ k = j + 1
  · rw [if_pos h1]
    unfold zs_sf
    rw [if_pos ⟨Or.inr h1.1, by omega, by omega⟩, h1.1, h1.2]; rfl
  · rw [if_neg h1]
    by_cases h2 : a = 24 ∧ k = j + 1
    · rw [if_pos h2]
      unfold zs_sf
      rw [if_pos ⟨Or.inl h2.1, by omega, by omega⟩, h2.1, h2.2]; rfl
    · rw [if_neg h2]
      unfold zs_sf
      by_cases h3 : (a = 24 ∨ a = 25) ∧ j + 1 < k ∧ k ≤ N
      · rw [if_pos h3, if_pos ⟨h3.1, by omega, h3.2.2⟩]
      · rw [if_neg h3, if_neg (fun q => h3 ⟨q.1, by
          refine ⟨?_, q.2.2⟩
          rcases q.1 with z | z <;> omega⟩)]
section YS
variable {l : Launch} {E : zx_E} {d : Nat} {I : Nat → Nat → Int32} {L : Nat → Nat → Int64} {Y : zx_Y} {Qo : Option Value → zx_M → Prop} {Q : Int32 → zx_M → Prop} {Ql : Int64 → zx_M → Prop} {Qv : zx_M → Prop} {f π : Nat → Nat} {P N m : Nat}
theorem zy_25 (hY : zx_lay Y) {c : Nat} (c0 : c ≠ 0) (h8 : zy_len c ≤ 8) (hq : Q (nI (zs_k c)) (I, L, Y)) : zx_Ci l E d 25 [.int (nI c)] (I, L, Y) Q := by
  have h1 : zy_len c ≠ 0 := fun z => c0 (zy_len_pos.mp z)
  have i7 : (823543 : Int32) = nI 823543 := rfl
  have key : ∀ r j, zy_len c + j + r = 8 → zx_To l E d 25 4 [none, some (.int (nI (c * 7 ^ j))), some (.int (nI j))] [] (I, L, Y) (fun r M' => ∃ v, r = some (.int v) ∧ Q v M') := by
    intro r
    induction r with
    | zero =>
      intro j hj
      have lm := zy_len_mul c0 j
      have lt8 := (zy_len_lt 8 (c * 7 ^ j)).mp (by omega)
      have ge : ¬ c * 7 ^ j < 823543 := fun q => by have := (zy_len_lt 7 (c * 7 ^ j)).mpr q; omega
      refine sg_25_4 hY _ _ ⟨fun h => ?_, fun _ => ⟨fun _ => ⟨_, rfl, ?_⟩, fun h => ?_⟩⟩
      · rw [zy_8 (by omega)] at h; omega
      · unfold zs_k at hq; rw [show 8 - zy_len c = j by omega] at hq; exact hq
      · rw [i7, nI_leI (by omega) (by omega)] at h; omega
    | succ r ih =>
      intro j hj
      have lm := zy_len_mul c0 j
      have lt7 := (zy_len_lt 7 (c * 7 ^ j)).mp (by omega)
      refine sg_25_4 hY _ _ ⟨fun h => ?_, fun _ => ⟨fun h => ?_, fun _ => ?_⟩⟩
      · rw [zy_8 (by omega)] at h; omega
      · rw [i7, nI_leI (by omega) (by omega)] at h; omega
      · have := ih (j + 1) (by omega)
        rw [Nat.pow_succ, ← Nat.mul_assoc] at this
        rw [nI_1, show nI (c * 7 ^ j) * 7 = nI (c * 7 ^ j * 7) from (Int32.ofNat_mul _ 7).symm]
        exact this
  have := key (8 - zy_len c) 0 (by omega)
  rw [Nat.pow_zero, Nat.mul_one] at this
  exact sg_25_0 hY _ this
theorem zy_24 (hY : zx_lay Y) (hF : zs_F f P) (hm : m < 10) (hf0 : f m ≠ 0) (hU : zs_U1 I f N π) (hO : zs_Om f m N π)
    (hq : ∀ J pl, pl ≤ N → (∀ i, i < pl → zs_k (f (π i)) ≤ zs_k (f m)) → (∀ i, pl ≤ i → i < N → zs_k (f m) ≤ zs_k (f (π i))) → (∀ a k, a ≠ 24 → a ≠ 25 → ¬ (a = 23 ∧ k = 7) → J a k = I a k) → zs_U1 J f (N + 1) (zs_ins π m pl) → Qv (J, L, Y)) :
    zx_Cv l E (d + 1) 24 [.ref 23, .int (nI m), .int (nI (f m))] (I, L, Y) Qv := by
  obtain ⟨u1, u2⟩ := hU
  have hN := hO.1
  have km := zs_k_lt (zs_F8 hF hm)
  have kl : ∀ i, i < N → zs_k (f (π i)) < 5764801 := fun i hi => zs_k_lt (zs_F8 hF (by have := (hO.2.1 i hi).1; omega))
  have fm := (hF.2.1 m hm).1
  -- shifting
  have shift : ∀ pl, pl ≤ N → (∀ i, i < pl → zs_k (f (π i)) ≤ zs_k (f m)) → (∀ i, pl ≤ i → i < N → zs_k (f m) ≤ zs_k (f (π i))) → ∀ r j, pl + r = j → j ≤ N →
      zx_To l E (d + 1) 24 71 [some (.ref 23), some (.int (nI m)), some (.int (nI (f m))), some (.int (nI pl)), some (.int (nI j))] [] (zs_sf I N j, L, Y) (fun r M' => r = none ∧ Qv M') := by
    intro pl hpl p1 p2 r
    induction r with
    | zero =>
      intro j hj hjN
      have ej : j = pl := by omega
      subst ej
      refine sg_24_71 hY _ _ _ _ ⟨fun _ => ⟨vp_in_nI (by omega) (by omega), vp_in_nI (by omega) (by omega), rfl, ?_⟩, fun h => absurd ((nI_leI (by omega) (by omega)).mpr (Nat.le_refl _)) h⟩
      rw [nI_clamp (by omega)]
      have e237 : zs_sf I N j 23 7 = nI N := by unfold zs_sf; rw [if_neg (by omega)]; exact u1
      refine hq _ j hjN p1 p2 (fun a k a1 a2 a3 => ?_) ⟨?_, fun i hi => ?_⟩
      · rw [zy_u2_ne a3, zy_u2_na a2, zy_u2_na a1]
        unfold zs_sf
        rw [if_neg (by omega)]
      · rw [zy_u2_self, e237, nI_1]
      · rw [zy_u2_na (show (24 : Nat) ≠ 23 by omega), zy_u2_na (show (24 : Nat) ≠ 25 by omega), zy_u2_na (show (25 : Nat) ≠ 23 by omega)]
        unfold zs_ins
        by_cases l1 : i < j
        · rw [if_pos l1, zy_u2_nk (show i ≠ j by omega), zy_u2_nk (show i ≠ j by omega), zy_u2_na (show (25 : Nat) ≠ 24 by omega)]
          unfold zs_sf
          rw [if_neg (by omega), if_neg (by omega)]
          exact u2 i (by omega)
        · rw [if_neg l1]
          by_cases l2 : i = j
          · rw [if_pos l2, l2, zy_u2_self, zy_u2_self]
            exact ⟨rfl, rfl⟩
          · rw [if_neg l2, zy_u2_nk (show i ≠ j by omega), zy_u2_nk (show i ≠ j by omega), zy_u2_na (show (25 : Nat) ≠ 24 by omega)]
            unfold zs_sf
            rw [if_pos ⟨Or.inl rfl, by omega, by omega⟩, if_pos ⟨Or.inr rfl, by omega, by omega⟩]
            exact u2 (i - 1) (by omega)
    | succ r ih =>
      intro j hj hjN
      obtain ⟨j', rfl⟩ : ∃ j', j = j' + 1 := ⟨j - 1, by omega⟩
      have h1 : vp_in (nI (j' + 1) - 1) 10 := by rw [nI_pred]; exact vp_in_nI (by omega) (by omega)
      have h2 : vp_in (nI (j' + 1)) 10 := vp_in_nI (by omega) (by omega)
      refine sg_24_71 hY _ _ _ _ ⟨fun h => ?_, fun _ => ⟨h1, h2, h1, h2, ?_⟩⟩
      · rw [nI_leI (by omega) (by omega)] at h; omega
      · rw [nI_pred, nI_clamp (by omega), nI_clamp (by omega), nI_m1, zs_sf_s hjN]
        exact ih j' (by omega) (by omega)
  have sf0 : zs_sf I N N = I := by funext a k; unfold zs_sf; rw [if_neg (by omega)]
  refine sg_24_0 hY _ _ ?_
  have look : ∀ r i, i + r = N → ∀ pl, pl ≤ i → (∀ k, k < pl → zs_k (f (π k)) ≤ zs_k (f m)) → (∀ k, pl ≤ k → k < i → zs_k (f m) ≤ zs_k (f (π k))) →
      zx_To l E (d + 1) 24 5 [some (.ref 23), some (.int (nI m)), some (.int (nI (f m))), some (.int (nI pl)), some (.int (nI i))] [] (I, L, Y) (fun r M' => r = none ∧ Qv M') := by
    intro r
    induction r with
    | zero =>
      intro i hi pl hpl p1 p2
      have ei : i = N := by omega
      subst ei
      refine sg_24_5 hY _ _ _ _ ⟨fun _ => ?_, fun h => absurd (by rw [u1]; exact (nI_leI (by omega) (by omega)).mpr (Nat.le_refl _)) h⟩
      rw [u1]
      refine ⟨fun h => ?_, fun _ => ⟨fun _ => ?_, fun h => ?_⟩⟩
      · rw [zy_10 (by omega)] at h; omega
      · have := shift pl hpl p1 p2 (i - pl) i (by omega) (Nat.le_refl _)
        rw [sf0] at this
        exact this
      · exact absurd (by rw [show (10 : Int32) = nI 10 from rfl, nI_ltI (by omega) (by omega)]; omega) h
    | succ r ih =>
      intro i hi pl hpl p1 p2
      have hiN : i < N := by omega
      refine sg_24_5 hY _ _ _ _ ⟨fun h => ?_, fun _ => ⟨fun h => ?_, fun _ => ⟨vp_in_nI (by omega) (by omega), ?_⟩⟩⟩
      · rw [u1, nI_leI (by omega) (by omega)] at h; omega
      · rw [zy_10 (by omega)] at h; omega
      · rw [nI_clamp (by omega), (u2 i hiN).2]
        obtain ⟨o1, o2⟩ := hO.2.1 i hiN
        refine zy_25 hY o2 (zs_F8 hF (by omega)) ⟨hY, zy_25 hY hf0 (zs_F8 hF hm) ⟨hY, ?_⟩⟩
        have := kl i hiN
        rw [nI_ltI (by omega) (by omega), nI_1]
        refine ⟨fun h => ih (i + 1) (by omega) pl (by omega) p1 (fun k k1 k2 => ?_), fun h => ih (i + 1) (by omega) (i + 1) (Nat.le_refl _) (fun k hk => ?_) (fun k k1 k2 => by omega)⟩
        · by_cases z : k = i
          · rw [z]; omega
          · exact p2 k k1 (by omega)
        · by_cases z : k = i
          · rw [z]; omega
          · have := hO.2.2.2.2 k i (by omega) hiN; omega
  exact look N 0 (by omega) 0 (Nat.le_refl _) (fun k hk => by omega) (fun k _ hk => by omega)
theorem zy_pf_d7 {c j : Nat} (h : j + 1 ≤ zy_len c) : zy_pf c (j + 1) / 7 = zy_pf c j := by
  unfold zy_pf
  rw [Nat.div_div_eq_div_mul, ← Nat.pow_succ]
  congr 2; omega
theorem zy_26 (hY : zx_lay Y) {i : Nat} (hi : i < 10) (hc : f (π i) < 5764801) (h25 : I 25 i = nI (f (π i)))
    (hq : ∀ J, (∀ a k, a ≠ 28 + i → ¬ (a = 26 ∧ k = i) → J a k = I a k) → zs_U2 J f π i → Qv (J, L, Y)) :
    zx_Cv l E (d + 1) 26 [.ref 23, .int (nI i)] (I, L, Y) Qv := by
  have l8 := zy_len8 hc
  have hin : vp_in (nI i) 10 := vp_in_nI hi (by omega)
  refine sg_26_0 hY _ ⟨hin, ?_⟩
  rw [nI_clamp (by omega), h25]
  refine zy_161 hY hc ⟨hY, hin, hin, hin, ?_⟩
  dsimp only
  rw [zy_u2_self, h25]
  have key : ∀ j J, j ≤ zy_len (f (π i)) → (∀ a k, a ≠ 28 + i → ¬ (a = 26 ∧ k = i) → J a k = I a k) → J 26 i = nI (zy_len (f (π i))) → (∀ k, j < k → k ≤ zy_len (f (π i)) → J (28 + i) k = nI (zy_pf (f (π i)) k)) →
      zx_To l E (d + 1) 26 29 [some (.ref 23), some (.int (nI i)), some (.int (nI (zy_pf (f (π i)) j))), some (.int (nI j))] [] (J, L, Y) (fun r M' => r = none ∧ Qv M') := by
    intro j
    induction j with
    | zero =>
      intro J hj j1 j2 j3
      have pl := zy_pf_le (f (π i)) 0
      refine sg_26_29 hY _ _ _ ⟨fun h => absurd h (nI_pos (by omega)), fun _ => ⟨hin, 28 + i, by rw [nI_clamp (by omega)]; exact (zs_27 hY hi).1, (zs_28 hY hi).1.1, by rw [(zs_28 hY hi).1.2]; exact vp_in_nI (by omega) (by omega), ?_⟩⟩
      rw [nI_clamp (by omega)]
      refine sg_26_29 hY _ _ _ ⟨fun _ => ⟨rfl, hq _ (fun a k a1 a2 => by rw [zy_u2_na a1]; exact j1 a k a1 a2) ⟨by rw [zy_u2_na (by omega)]; exact j2, fun l hl => ?_⟩⟩, fun h => absurd (by decide : (nI 0 + (-1 : Int32)) < 0) h⟩
      by_cases z : l = 0
      · rw [z, zy_u2_self]
      · rw [zy_u2_nk z]; exact j3 l (by omega) hl
    | succ j ih =>
      intro J hj j1 j2 j3
      have pl := zy_pf_le (f (π i)) (j + 1)
      refine sg_26_29 hY _ _ _ ⟨fun h => absurd h (nI_pos (by omega)), fun _ => ⟨hin, 28 + i, by rw [nI_clamp (by omega)]; exact (zs_27 hY hi).1, (zs_28 hY hi).1.1, by rw [(zs_28 hY hi).1.2]; exact vp_in_nI (by omega) (by omega), ?_⟩⟩
      rw [nI_clamp (by omega), zy_d7 (by omega), zy_pf_d7 hj, nI_m1]
      refine ih _ (by omega) (fun a k a1 a2 => by rw [zy_u2_na a1]; exact j1 a k a1 a2) (by rw [zy_u2_na (by omega)]; exact j2) (fun k k1 k2 => ?_)
      by_cases z : k = j + 1
      · rw [z, zy_u2_self]
      · rw [zy_u2_nk z]; exact j3 k (by omega) k2
  have := key (zy_len (f (π i))) (zx_u2 I 26 i (nI (zy_len (f (π i))))) (Nat.le_refl _) (fun a k _ a2 => zy_u2_ne a2) zy_u2_self (fun k k1 k2 => by omega)
  rw [zy_pf_self (Nat.le_refl _)] at this
  exact this
theorem zy_27 (hY : zx_lay Y) (hN : N ≤ 10) {i : Nat} (hi : i < N) (h23 : I 23 7 = nI N) (hU : ∀ j, j < N → zs_U2 I f π j ∧ f (π j) < 5764801)
    (hq : ∀ K, (∀ a k, a ≠ 39 + i → K a k = L a k) → zs_U3 K f N π i → Qv (I, K, Y)) :
    zx_Cv l E (d + 1) 27 [.ref 23, .int (nI i)] (I, L, Y) Qv := by
  have hin : vp_in (nI i) 10 := vp_in_nI (by omega) (by omega)
  have l8 : ∀ j, j < N → zy_len (f (π j)) ≤ 8 := fun j hj => zy_len8 (hU j hj).2
  have li := l8 i hi
  refine sg_27_0 hY _ ?_
  have key : ∀ r m K, m + r = zy_len (f (π i)) + 1 → 1 ≤ m → (∀ a k, a ≠ 39 + i → K a k = L a k) → (∀ k, 1 ≤ k → k < m → k ≤ zy_len (f (π i)) → K (39 + i) k = nL (zs_c 10 (zg_bt (zs_sh f N π i k)))) →
      zx_To l E (d + 1) 27 2 [some (.ref 23), some (.int (nI i)), some (.int (nI m)), none, none, none] [] (I, K, Y) (fun r M' => r = none ∧ Qv M') := by
    intro r
    induction r with
    | zero =>
      intro m K hm m1 k1 k2
      refine sg_27_2 hY _ _ ⟨hin, fun _ => ⟨rfl, hq K k1 (fun l l1 l2 => k2 l l1 (by omega) l2)⟩, fun h => ?_⟩
      rw [nI_clamp (by omega), (hU i hi).1.1, nI_ltI (by omega) (by omega)] at h; omega
    | succ r ih =>
      intro m K hm m1 k1 k2
      refine sg_27_2 hY _ _ ⟨hin, fun h => ?_, fun _ => ?_⟩
      · rw [nI_clamp (by omega), (hU i hi).1.1, nI_ltI (by omega) (by omega)] at h; omega
      have inner : ∀ q j, j + q = N → zx_To l E (d + 1) 27 17 [some (.ref 23), some (.int (nI i)), some (.int (nI m)), some (.long (nL (zs_c 10 (zg_bt (fun k => decide (k < j) && zs_sh f N π i m k))))), none, some (.int (nI j))] [] (I, K, Y) (fun r M' => r = none ∧ Qv M') := by
        intro q
        induction q with
        | zero =>
          intro j hj
          have ej : j = N := by omega
          subst ej
          refine sg_27_17 hY _ _ _ _ ⟨fun _ => ⟨hin, 39 + i, by rw [nI_clamp (by omega)]; exact (zs_27 hY (by omega)).2.1, (zs_28 hY (by omega)).2.1.1, by rw [(zs_28 hY (by omega)).2.1.2]; exact vp_in_nI (by omega) (by omega), ?_⟩, fun h => absurd (by rw [h23]; exact (nI_leI (by omega) (by omega)).mpr (Nat.le_refl _)) h⟩
          rw [nI_clamp (by omega), nI_1]
          refine ih (m + 1) _ (by omega) (by omega) (fun a k a1 => by rw [zy_u2_na a1]; exact k1 a k a1) (fun k h1 h2 h3 => ?_)
          by_cases z : k = m
          · rw [z, zy_u2_self]
            congr 1
            refine zs_c_cong (fun x _ => ?_)
            rw [zg_bt_b, zg_bt_b]
            congr 1
            unfold zs_sh
            cases decide (x < j) <;> simp
          · rw [zy_u2_nk z]; exact k2 k h1 (by omega) h3
        | succ q ih2 =>
          intro j hj
          have hjN : j < N := by omega
          have lj := l8 j hjN
          have hjn : vp_in (nI j) 10 := vp_in_nI (by omega) (by omega)
          have e26 := (hU j hjN).1.1
          have same : zs_sh f N π i m j = false → zx_To l E (d + 1) 27 17 [some (.ref 23), some (.int (nI i)), some (.int (nI m)), some (.long (nL (zs_c 10 (zg_bt (fun k => decide (k < j) && zs_sh f N π i m k))))), none, some (.int (nI j + 1))] [] (I, K, Y) (fun r M' => r = none ∧ Qv M') := fun e => by
            have := ih2 (j + 1) (by omega)
            rw [nI_1]
            have e2 : (fun k => decide (k < j + 1) && zs_sh f N π i m k) = fun k => decide (k < j) && zs_sh f N π i m k := by
              funext k
              by_cases z : k = j
              · rw [z, e, Bool.and_false, Bool.and_false]
              · congr 1; exact decide_eq_decide.mpr (by omega)
            rw [e2] at this
            exact this
          refine sg_27_17 hY _ _ _ _ ⟨fun h => ?_, fun _ => ⟨hjn, fun h => ?_, fun h => ⟨hjn, 28 + j, by rw [nI_clamp (by omega)]; exact (zs_27 hY (by omega)).1, Or.inl (zs_28 hY (by omega)).1.1, by rw [(zs_28 hY (by omega)).1.2]; exact vp_in_nI (by omega) (by omega), hin, 28 + i, by rw [nI_clamp (by omega)]; exact (zs_27 hY (by omega)).1, Or.inl (zs_28 hY (by omega)).1.1, by rw [(zs_28 hY (by omega)).1.2]; exact vp_in_nI (by omega) (by omega), ?_⟩⟩⟩
          · rw [h23, nI_leI (by omega) (by omega)] at h; omega
          · rw [nI_clamp (by omega), e26, nI_ltI (by omega) (by omega)] at h
            refine same ?_
            unfold zs_sh
            rw [decide_eq_false (show ¬ m ≤ zy_len (f (π j)) by omega), Bool.false_and, Bool.and_false]
          · rw [nI_clamp (by omega), e26, nI_ltI (by omega) (by omega)] at h
            have p1 := zy_pf_le (f (π j)) m
            have p2 := zy_pf_le (f (π i)) m
            have q1 := (hU j hjN).2
            have q2 := (hU i hi).2
            rw [nI_clamp (by omega), (hU j hjN).1.2 m (by omega), (hU i hi).1.2 m (by omega), nI_eq (by omega) (by omega)]
            refine ⟨fun z => same ?_, fun z => ?_⟩
            · unfold zs_sh
              rw [decide_eq_false z, Bool.and_false, Bool.and_false]
            · have e : zs_sh f N π i m j = true := by
                unfold zs_sh
                rw [decide_eq_true hjN, decide_eq_true (show m ≤ zy_len (f (π j)) by omega), decide_eq_true z]; rfl
              rw [zs_bt_put (by omega) (by rw [decide_eq_false (by omega)]; rfl), nI_1]
              have := ih2 (j + 1) (by omega)
              have e2 : (fun k => decide (k < j + 1) && zs_sh f N π i m k) = fun k => (decide (k < j) && zs_sh f N π i m k) || decide (k = j) := by
                funext k
                by_cases z : k = j
                · rw [z, e, decide_eq_true rfl, Bool.or_true, decide_eq_true (by omega)]; rfl
                · rw [decide_eq_false z, Bool.or_false]
                  congr 1; exact decide_eq_decide.mpr (by omega)
              rw [e2] at this
              exact this
      have := inner N 0 (by omega)
      rw [show nL (zs_c 10 (zg_bt (fun k => decide (k < 0) && zs_sh f N π i m k))) = 0 from zs_bt_0.mpr (fun k _ => by rw [decide_eq_false (by omega)]; rfl)] at this
      exact this
  exact key (zy_len (f (π i))) 1 L (by omega) (Nat.le_refl _) (fun a k _ => rfl) (fun k h1 h2 => by omega)
end YS
