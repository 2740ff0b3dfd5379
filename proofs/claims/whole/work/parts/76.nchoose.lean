/-! ===== new names: all that the class tells of them ===== -/
def zn_fc (I J : Nat → Nat → Int32) : Prop := ∀ a k, ¬ (81 ≤ a ∧ a ≤ 116) → ¬ (a = 76 ∧ k = 9) → J a k = I a k
section YCt
variable {l : Launch} {E : zx_E} {d : Nat} {I : Nat → Nat → Int32} {L : Nat → Nat → Int64} {Y : zx_Y} {Qo : Option Value → zx_M → Prop} {Q : Int32 → zx_M → Prop} {Qv : zx_M → Prop} {pr : Nat → Nat} {n ap many q1 : Nat} {bs : List Nat}
theorem zn_ok_0 : zn_ok bs 0 := ⟨zy_dig_0, fun b _ h => by have := zn_st_len h; rw [zy_len_0] at this; exact zy_len_pos.mp (by omega)⟩
theorem zy_c52 (hY : zx_lay Y) {p2 : Nat} (hE : zn_E (zx_u2 I 76 9 (nI many)) (zx_u2 Y.1 76 5 (some p2), Y.2) n ap many p2 bs pr)
    (hq : ∀ J, zn_fc I J → zn_P J 84 pr (zn_pk pr (n - ap) many bs n 0) → Qv (J, L, (zx_u2 Y.1 76 5 (some p2), Y.2))) : zx_Cv l E (d + n + 5) 52 [.ref 76, .int (nI many), .ref p2] (I, L, Y) Qv := by
  have hY' : zx_lay (zx_u2 Y.1 76 5 (some p2), Y.2) := zn_lay5 hY p2
  obtain ⟨⟨a1, a2, a3⟩, ⟨n1, n2, p1, p2', m1, m2⟩, hB, ⟨c1, c2, c3⟩, e1⟩ := id hE
  have hpr : ∀ x, 1 ≤ x → x ≤ 6 → pr x ≤ 9 := fun x h1 h2 => (c3 x h1 h2).2
  have a1' : I 76 7 = nI n := by rw [zy_u2_nk (by omega)] at a1; exact a1
  obtain ⟨rf1, rf2⟩ := zn_rf hY' (i := n) (by omega)
  have hcn := zn_an hY' (i := n) (by omega)
  generalize hYY : (zx_u2 Y.1 76 5 (some p2), Y.2) = Y' at *
  generalize hI1 : zx_u2 I 76 9 (nI many) = I1 at *
  have fI1 : zn_fc I I1 := fun a k _ h2 => by rw [← hI1, zy_u2_ne h2]
  have hv := vp_in_nI (n := n) (N := 6) (by omega) (by omega)
  -- from below up
  have outer : ∀ i J, i ≤ n → (∀ a k, ¬ (81 ≤ a ∧ a ≤ 116) → J a k = I1 a k) → zn_A J n (n - ap) many pr i → zx_To l E (d + n + 5) 52 44 [some (.ref 76), none, none, some (.int (nI i - 1)), none] [] (J, L, Y') (fun r M' => r = none ∧ Qv M') := by
    intro i
    induction i with
    | zero =>
      intro J hi hJ hA
      have hEJ := zn_E_cong hE (fun a k ha => hJ a k (by omega))
      refine sg_52_44 hY' _ ⟨fun _ => ?_, fun h => absurd (by decide) h⟩
      have e0 : (0 : Int32) = nI (n - n) := by rw [Nat.sub_self]; rfl
      rw [show d + n + 4 = d + n + 4 from rfl]
      have := zy_c55 (l := l) (E := E) (L := L) hY' n 0 d J (fun M => zx_lay M.2.2 ∧ (none : Option Value) = none ∧ Qv M) (Nat.le_refl _) hEJ hA zn_ok_0 (Nat.pow_pos (by omega)) (fun J2 hf2 hP2 => ⟨hY', rfl, hq J2 (fun a k h1 h2 => ?_) (by rw [Nat.sub_self] at hP2; exact hP2)⟩)
      · rw [Nat.sub_self] at this
        exact this
      · rw [hf2 a k (fun i _ _ q => h1 (by omega)), hJ a k h1]; exact fI1 a k h1 h2
    | succ i ih =>
      intro J hi hJ hA
      have hEJ := zn_E_cong hE (fun a k ha => hJ a k (by omega))
      have hr : n - (n - i) = i := by omega
      have hci := zn_an hY' (i := i) (by omega)
      obtain ⟨rfi, -⟩ := zn_rf hY' (i := i) (by omega)
      obtain ⟨rfs, -⟩ := zn_rf hY' (i := i + 1) (by omega)
      have hlm := zn_lm_6 (q := n - ap) (r := n - i) m2
      rw [nI_pred]
      have key := zy_c53 (l := l) (E := E) (d := d + n + 4) (L := L) hY' hEJ (r := n - i) (by omega) (Q := fun v4 M3 => zx_lay M3.2.2 ∧ zx_is (M3.1, M3.2.1, M3.2.2) (81 + 6 * i) 7 ∧ zx_Cv l E (d + n + 4) 75 [.ref (81 + 6 * i), .int v4] (M3.1, M3.2.1, M3.2.2) (fun M5 => zx_lay M5.2.2 ∧ zx_To l E (d + n + 4 + 1) 52 65 [some (.ref 76), none, none, some (.int (nI i)), some (.int 1)] [] (M5.1, M5.2.1, M5.2.2) (fun r M' => r = none ∧ Qv M')))
        ⟨hY', hci.1 _ _, by
          rw [show d + n + 4 = d + n + 3 + 1 by omega]
          refine zy_c75 hY' hci hlm (fun J2 hf2 h22 h23 => ⟨hY', ?_⟩)
          have hany := fun r (hr : r ≤ 5) => zn_any_ok (pr := pr) (q := n - ap) m1 r hr
          have hJ2 : ∀ a k, ¬ (81 ≤ a ∧ a ≤ 116) → J2 a k = I1 a k := fun a k h => by
            rw [hf2 a k (fun ⟨w, hw, w1, _⟩ => by rw [List.mem_singleton] at hw; subst hw; simp at w1; omega)]; exact hJ a k h
          have hA2 : zn_A J2 n (n - ap) many pr (i + 1) := fun i' h1 h2 => zn_P_cong (hA i' h1 h2) (Nat.le_trans (hany (n - i') (by omega)).2.1 (zn_lm_6 m2)) (fun a k hk => hf2 a k (fun ⟨w, hw, w1, _⟩ => by
            rw [List.mem_singleton] at hw; subst hw
            obtain ⟨z, hz, z1, _⟩ := hk
            simp only [List.mem_cons, List.not_mem_nil, or_false] at hz
            rcases hz with rfl | rfl | rfl <;> simp at z1 w1 <;> omega))
          -- letter by letter
          have hst : ∀ x, 1 ≤ x → x ≤ 6 → (zn_any pr (n - ap) many (n - (i + 1))).Pairwise (fun a b => zn_k pr a < zn_k pr b) ∧ ∀ e ∈ zn_any pr (n - ap) many (n - (i + 1)), zn_d (n - (i + 1)) e := fun x _ _ => ⟨(hany _ (by omega)).1, fun e he => ((hany _ (by omega)).2.2.1 e he).1⟩
          have loop : ∀ m j J3, m + j = 6 → (∀ a k, ¬ (81 ≤ a ∧ a ≤ 116) → J3 a k = I1 a k) → zn_A J3 n (n - ap) many pr (i + 1) → J3 (81 + 6 * i) 3 = nI (zn_lm (n - ap) many (n - i)) → zn_P J3 (81 + 6 * i) pr (zn_st pr (zn_lm (n - ap) many (n - i)) (n - (i + 1)) (fun _ => zn_any pr (n - ap) many (n - (i + 1))) j) → zx_To l E (d + n + 4 + 1) 52 65 [some (.ref 76), none, none, some (.int (nI i)), some (.int (nI (j + 1)))] [] (J3, L, Y') (fun r M' => r = none ∧ Qv M') := by
            intro m
            induction m with
            | zero =>
              intro j J3 hj hJ3 hA3 h33 hP3
              have ej : j = 6 := by omega
              subst ej
              refine sg_52_65 hY' _ _ ⟨fun _ => ?_, fun h => absurd (by decide) h⟩
              have em : nI i + -1 = nI i - 1 := by
                rw [Int32.sub_eq_add_neg]
              rw [em]
              refine ih J3 (by omega) hJ3 (fun i' h1 h2 => ?_)
              by_cases e : i' = i
              · rw [e, show n - i = n - (i + 1) + 1 by omega, zn_any, show n - (i + 1) + 1 = n - i by omega]; exact hP3
              · exact hA3 i' (by omega) h2
            | succ m ihm =>
              intro j J3 hj hJ3 hA3 h33 hP3
              obtain ⟨t1, t2, t3⟩ := zn_st_inv (pr := pr) (L := zn_lm (n - ap) many (n - i)) (r := n - (i + 1)) (by omega) (ch := fun _ => zn_any pr (n - ap) many (n - (i + 1))) hst j (by omega)
              have hE3 := zn_E_cong hE (fun a k ha => hJ3 a k (by omega))
              refine sg_52_65 hY' _ _ ⟨fun h => absurd ((nI_ltI (a := 6) (by omega) (by omega)).mp h) (by omega), fun _ => ⟨vp_in_nI (by omega) (by omega), 81 + 6 * i, by rw [nI_clamp (by omega)]; exact rfi, by rw [nI_1]; exact vp_in_nI (by omega) (by omega), 81 + 6 * (i + 1), by rw [nI_1, nI_clamp (by omega)]; exact rfs, ?_⟩⟩
              have ei : nI i = nI (n - (n - (i + 1) + 1)) := by congr 1; omega
              rw [ei, show d + n + 4 = d + n + 1 + 3 by omega]
              refine zy_c54 hY' hE3 hci (zn_an hY' (i := i + 1) (by omega)) (by omega) hlm (by omega) (by omega) t2 (Nat.le_trans (hany _ (by omega)).2.1 (zn_lm_6 m2)) h33 hP3 (hA3 (i + 1) (Nat.le_refl _) (by omega)) t1 (hst 1 (by omega) (by omega)).1 (hst 1 (by omega) (by omega)).2 t3 (fun J4 hf4 h43 hP4 => ⟨hY', ?_⟩)
              rw [← ei, nI_1]
              refine ihm (j + 1) J4 (by omega) (fun a k h => by rw [hf4 a k (by omega)]; exact hJ3 a k h) (fun i' h1 h2 => zn_P_cong (hA3 i' h1 h2) (Nat.le_trans (hany (n - i') (by omega)).2.1 (zn_lm_6 m2)) (fun a k hk => hf4 a k (fun q => ?_))) h43 (by rw [zn_st]; exact hP4)
              obtain ⟨z, hz, z1, _⟩ := hk
              simp only [List.mem_cons, List.not_mem_nil, or_false] at hz
              rcases hz with rfl | rfl | rfl <;> simp at z1 <;> omega
          exact loop 6 0 J2 rfl hJ2 hA2 h23 ⟨by rw [h22]; rfl, fun j hj => (by simp [zn_st] at hj)⟩⟩
      rw [show n - (n - i) = i by omega] at key
      exact sg_52_44 hY' _ ⟨fun h => absurd h (nI_pos (by omega)), fun _ => ⟨vp_in_nI (by omega) (by omega), 81 + 6 * i, by rw [nI_clamp (by omega)]; exact rfi, key⟩⟩
  refine sg_52_0 hY _ _ ?_
  rw [hYY, hI1, a1', nI_clamp (by omega)]
  refine ⟨hv, 81 + 6 * n, rf1, hcn.1 _ _, ?_⟩
  rw [show d + n + 4 = d + n + 3 + 1 by omega]
  refine zy_c75 (Lm := 1) hY' hcn (by omega) (fun J hf h2 h3 => ⟨hY', ?_⟩)
  have hJ1 : ∀ a k, ¬ (81 ≤ a ∧ a ≤ 116) → J a k = I1 a k := fun a k h => hf a k (fun ⟨w, hw, w1, _⟩ => by rw [List.mem_singleton] at hw; subst hw; simp at w1; omega)
  have j7 : J 76 7 = nI n := by rw [hJ1 _ _ (by omega)]; exact a1
  dsimp only
  rw [j7, nI_clamp (by omega)]
  refine ⟨hv, 81 + 6 * n, rf1, hcn.1 _ _, ?_⟩
  have c0 : zn_c pr 0 = 0 := zn_c_0
  have h76 := zy_c76 (l := l) (E := E) (d := d + n + 3) (I := J) (L := L) (Qv := fun M4 => zx_lay M4.2.2 ∧ zx_To l E (d + n + 3 + 1 + 1) 52 44 [some (.ref 76), none, none, some (.int (M4.1 76 7 - 1)), none] [] (M4.1, M4.2.1, M4.2.2) (fun r M' => r = none ∧ Qv M')) hY' (e := 0) (xs := []) hcn (Lm := 1) (by omega) (Nat.zero_le _) h3 (pr := pr) ⟨by rw [h2]; rfl, fun j hj => (by simp at hj)⟩ List.Pairwise.nil (fun x hx => (by cases hx)) ⟨by omega, by rw [c0]; omega⟩ (fun x hx => (by cases hx)) (fun J2 hf2 hP2 => ⟨hY', ?_⟩)
  · rw [c0] at h76
    exact h76
  · have hJ2 : ∀ a k, ¬ (81 ≤ a ∧ a ≤ 116) → J2 a k = I1 a k := fun a k h => by
      rw [hf2 a k (fun ⟨w, hw, w1, _⟩ => by
        simp only [List.mem_cons, List.not_mem_nil, or_false] at hw
        rcases hw with rfl | rfl | rfl <;> simp at w1 <;> omega)]
      exact hJ1 a k h
    have j27 : J2 76 7 = nI n := by rw [hJ2 _ _ (by omega)]; exact a1
    dsimp only
    rw [j27]
    refine outer n J2 (Nat.le_refl _) hJ2 (fun i' h1 h2' => ?_)
    have e : i' = n := by omega
    subst e
    rw [Nat.sub_self, zn_any]
    exact hP2
theorem zy_c56 (hY : zx_lay Y) (hB : zn_B I bs) (h7 : I 76 7 = nI n) (hn5 : n ≤ 5) (h6 : ∀ j, j < 6 → I 2 j = nI (6 ^ j)) : ∀ (r s d : Nat) (Q : Int32 → zx_M → Prop), r ≤ n → zn_ok bs s → s < 7 ^ (n - r) → Q (nI (zn_cs bs r s)) (I, L, Y) → zx_Ci l E (d + r + 2) 56 [.ref 76, .int (nI s), .int (nI (n - r))] (I, L, Y) Q := by
  intro r
  induction r with
  | zero =>
    intro s d Q hr hok hs hq
    have hs5 := zn_pow5 (show n - 0 ≤ 5 by omega)
    rw [zn_cs] at hq
    refine sg_56_0 hY _ _ (zy_c57 hY hB (by omega) ⟨hY, fun h => ⟨fun _ => ?_, fun h2 => absurd (by dsimp only; rw [h7]; exact nI_le (by omega) (by omega)) h2⟩, fun h => ⟨_, rfl, ?_⟩⟩)
    · rw [zy_b0] at h
      rw [h, if_neg (by decide)] at hq
      dsimp only
      rw [h7, pk_sub (by omega), show n - (n - 0) = 0 by omega, nI_clamp (by omega), h6 0 (by omega)]
      exact ⟨vp_in_nI (by omega) (by omega), _, rfl, hq⟩
    · rw [zy_b1] at h
      rw [h, if_pos rfl] at hq
      exact hq
  | succ r ih =>
    intro s d Q hr hok hs hq
    have hs5 := zn_pow5 (show n - (r + 1) ≤ 5 by omega)
    have hs7 : s * 7 + 6 < 7 ^ (n - r) := by rw [show n - r = n - (r + 1) + 1 by omega, Nat.pow_succ]; omega
    have hs75 := zn_pow5 (show n - r ≤ 5 by omega)
    rw [zn_cs] at hq
    refine sg_56_0 hY _ _ (zy_c57 hY hB (by omega) ⟨hY, fun h => ⟨fun h2 => ?_, fun _ => zy_c58 hY hB (by omega) ⟨hY, fun h2 => ?_, fun h2 => ?_⟩⟩, fun h => ⟨_, rfl, ?_⟩⟩)
    · dsimp only at h2
      rw [h7] at h2
      exact absurd ((nI_leI (by omega) (by omega)).mp h2) (by omega)
    · rw [zy_b0] at h
      rw [zy_b1] at h2
      rw [h, if_neg (by decide), h2, if_pos rfl] at hq
      have stp : ∀ (x c : Nat) (Qo : Option Value → zx_M → Prop), 1 ≤ x → x ≤ 6 → zx_To l E (d + (r + 1) + 2) 56 42 [some (.ref 76), some (.int (nI s)), some (.int (nI (n - (r + 1)))), some (.int (nI (c + zn_cs bs r (s * 7 + x)))), some (.int (nI (x + 1)))] [] (I, L, Y) Qo → zx_To l E (d + (r + 1) + 2) 56 42 [some (.ref 76), some (.int (nI s)), some (.int (nI (n - (r + 1)))), some (.int (nI c)), some (.int (nI x))] [] (I, L, Y) Qo := by
        intro x c Qo x1 x6 hg
        refine sg_56_42 hY _ _ _ _ ⟨fun h => absurd ((nI_ltI (a := 6) (by omega) (by omega)).mp h) (by omega), fun _ => ?_⟩
        rw [show (7 : Int32) = nI 7 by decide, pk_mul, nI_add, nI_1, show n - (r + 1) + 1 = n - r by omega, show d + (r + 1) + 1 = d + r + 2 by omega]
        refine ih (s * 7 + x) d _ (by omega) (zn_ok_s hok h x1 x6) (by omega) ⟨hY, ?_⟩
        rw [nI_add, nI_1]
        exact hg
      refine stp 1 0 _ (by omega) (by omega) (stp 2 _ _ (by omega) (by omega) (stp 3 _ _ (by omega) (by omega) (stp 4 _ _ (by omega) (by omega) (stp 5 _ _ (by omega) (by omega) (stp 6 _ _ (by omega) (by omega) ?_)))))
      refine sg_56_42 hY _ _ _ _ ⟨fun _ => ⟨_, rfl, ?_⟩, fun h => absurd (by decide) h⟩
      rw [Nat.zero_add]
      exact hq
    · rw [zy_b0] at h h2
      rw [h, if_neg (by decide), h2, if_neg (by decide)] at hq
      dsimp only
      rw [h7, pk_sub (by omega), show n - (n - (r + 1)) = r + 1 by omega, nI_clamp (by omega), h6 (r + 1) (by omega)]
      exact ⟨vp_in_nI (by omega) (by omega), _, rfl, hq⟩
    · rw [zy_b1] at h
      rw [h, if_pos rfl] at hq
      exact hq
theorem zy_c49 (hY : zx_lay Y) {c w : Nat} (hc : c < 2 ^ 31) (hw : w < 2 ^ 31) (hq : Q (nI (c / 7 ^ w)) (I, L, Y)) : zx_Ci l E d 49 [.int (nI c), .int (nI w)] (I, L, Y) Q := by
  have loop : ∀ m i c, m + i = w → c < 2 ^ 31 → Q (nI (c / 7 ^ m)) (I, L, Y) → zx_To l E d 49 4 [none, some (.int (nI w)), some (.int (nI c)), some (.int (nI i))] [] (I, L, Y) (fun r M' => ∃ v, r = some (.int v) ∧ Q v M') := by
    intro m
    induction m with
    | zero =>
      intro i c hi h31 hq
      rw [Nat.pow_zero, Nat.div_one] at hq
      exact sg_49_4 hY _ _ _ ⟨fun _ => ⟨_, rfl, hq⟩, fun h => absurd (nI_le (by omega) (by omega)) h⟩
    | succ m ih =>
      intro i c hi h31 hq
      refine sg_49_4 hY _ _ _ ⟨fun h => absurd ((nI_leI (by omega) (by omega)).mp h) (by omega), fun _ => ?_⟩
      rw [zy_d7 h31, nI_1]
      refine ih (i + 1) (c / 7) (by omega) (by omega) ?_
      rw [Nat.div_div_eq_div_mul, Nat.mul_comm, ← Nat.pow_succ]
      exact hq
  exact sg_49_0 hY _ _ (loop w 0 c (by omega) hc hq)
theorem zn_max {a m k : Nat} (ha : a < 2 ^ 20) (hm : m < 2 ^ 20) (hk : k < 2 ^ 20) : (if nI a < nI m - nI k then nI m - nI k else nI a) = nI (max a (m - k)) := by
  by_cases h : k ≤ m
  · rw [pk_sub h]
    by_cases z : a < m - k
    · rw [if_pos ((nI_ltI (by omega) (by omega)).mpr z), show max a (m - k) = m - k by omega]
    · rw [if_neg (fun q => z ((nI_ltI (by omega) (by omega)).mp q)), show max a (m - k) = a by omega]
  · have hneg : nI m - nI k < 0 := pk_sneg (by omega) (by omega)
    rw [if_neg (fun q => ?_), show max a (m - k) = a by omega]
    rw [Int32.lt_iff_toInt_lt] at q hneg
    rw [nI_toInt (by omega)] at q
    rw [zy_i0] at hneg
    omega
/-- ask -/
def zn_ak (I : Nat → Nat → Int32) (n ap : Nat) (bs : List Nat) : Nat → Nat → Int32 := zx_u2 (zo_wr (zx_u2 (zx_u2 I 76 7 (nI n)) 76 8 (nI ap)) 77 bs) 76 6 (nI bs.length)
theorem zn_ak_push {ap b : Nat} : zx_u2 (zx_u2 (zn_ak I n ap bs) 77 bs.length (nI b)) 76 6 (nI (bs.length + 1)) = zn_ak I n ap (bs ++ [b]) := by
  funext a k
  unfold zn_ak zo_wr zx_u2
  dsimp only
  rw [zl_app_getD, List.length_append, List.length_singleton]
  by_cases h1 : a = 76 ∧ k = 6
  · simp [h1]
  · by_cases h2 : a = 77
    · subst h2
      by_cases e : k = bs.length
      · simp [e]
      · by_cases z : k < bs.length
        · have z2 : k < bs.length + 1 := by omega
          simp [e, z, z2]
        · have z2 : ¬ k < bs.length + 1 := by omega
          simp [e, z, z2]
    · simp [h1, h2]
theorem zy_c48 (hY : zx_lay Y) {P k : Nat} (hP : P ≤ 10) (h87 : I 8 7 = nI P) {f : Nat → Nat} (hf : ∀ p, p < P → I 9 p = nI (f p) ∧ f p < 5764801) (hn1 : 1 ≤ n) (hn5 : n ≤ 5) (hk : k ≤ 8) (hq : Qv (zn_ak I n (max 1 (n - k)) (zn_bs f n k P), L, Y)) : zx_Cv l E (d + 1) 48 [.ref 76, .int (nI n), .int (nI k)] (I, L, Y) Qv := by
  have e1 : (if (1 : Int32) < nI n - nI k then nI n - nI k else 1) = nI (max 1 (n - k)) := zn_max (a := 1) (by omega) (by omega) (by omega)
  have el : ∀ bs a k, a ≠ 76 → a ≠ 77 → zn_ak I n (max 1 (n - k)) bs a k = I a k := fun bs a k h1 h2 => by unfold zn_ak; rw [zy_u2_na h1, zo_wr_el h2, zy_u2_na h1, zy_u2_na h1]
  have el2 : ∀ bs a j, a ≠ 76 → a ≠ 77 → zn_ak I n (max 1 (n - k)) bs a j = I a j := fun bs a j h1 h2 => by unfold zn_ak; rw [zy_u2_na h1, zo_wr_el h2, zy_u2_na h1, zy_u2_na h1]
  have e768 : ∀ bs, zn_ak I n (max 1 (n - k)) bs 76 8 = nI (max 1 (n - k)) := fun bs => by unfold zn_ak; rw [zy_u2_nk (by omega), zo_wr_el (by omega), zy_u2_self]
  have e766 : ∀ bs, zn_ak I n (max 1 (n - k)) bs 76 6 = nI bs.length := fun bs => by unfold zn_ak; rw [zy_u2_self]
  have loop : ∀ m p, m + p = P → zx_To l E (d + 1) 48 23 [some (.ref 76), some (.int (nI n)), some (.int (nI k)), some (.int (nI p)), none, none] [] (zn_ak I n (max 1 (n - k)) (zn_bs f n k p), L, Y) (fun r M' => r = none ∧ Qv M') := by
    intro m
    induction m with
    | zero =>
      intro p hp
      have ep : p = P := by omega
      subst ep
      refine sg_48_23 hY _ _ _ ⟨fun _ => ⟨rfl, hq⟩, fun h => absurd ?_ h⟩
      rw [el2 _ _ _ (by omega) (by omega), h87]; exact nI_le (by omega) (by omega)
    | succ m ih =>
      intro p hp
      obtain ⟨g1, g2⟩ := hf p (by omega)
      have hl8 := zy_len8 g2
      have hbl := zn_bs_len (f := f) (n := n) (k := k) p
      have next := ih (p + 1) (by omega)
      rw [zn_bs] at next
      have hmt : zn_mt n k (zy_len (f p)) = max (max 1 (n - k)) (zy_len (f p) - k) := rfl
      have hv := vp_in_nI (n := p) (N := 10) (by omega) (by omega)
      refine sg_48_23 hY _ _ _ ⟨fun h => ?_, fun _ => ⟨hv, ?_⟩⟩
      · rw [el2 _ _ _ (by omega) (by omega), h87] at h
        exact absurd ((nI_leI (by omega) (by omega)).mp h) (by omega)
      · rw [nI_clamp (by omega), el2 _ _ _ (by omega) (by omega), g1]
        refine zy_161 hY g2 ⟨hY, ?_⟩
        dsimp only
        have em : (if zn_ak I n (max 1 (n - k)) (zn_bs f n k p) 76 8 < nI (zy_len (f p)) - nI k then nI (zy_len (f p)) - nI k else zn_ak I n (max 1 (n - k)) (zn_bs f n k p) 76 8) = nI (zn_mt n k (zy_len (f p))) := by
          rw [hmt, ← zn_max (a := max 1 (n - k)) (m := zy_len (f p)) (k := k) (by omega) (by omega) (by omega), ← e768 (zn_bs f n k p)]
        rw [em, nI_ltI (by omega) (by rw [hmt]; omega), nI_ltI (by omega) (by rw [hmt]; omega), nI_1]
        refine ⟨fun h => ?_, fun h => ⟨fun h2 => ?_, fun h2 => ⟨hv, ?_⟩⟩⟩
        · rw [if_neg (by omega)] at next; exact next
        · rw [if_neg (by omega)] at next; exact next
        · rw [if_pos (by omega)] at next
          rw [el2 _ _ _ (by omega) (by omega), g1, pk_sub (by omega)]
          refine zy_c49 hY (by omega) (by omega) ⟨hY, ?_⟩
          dsimp only
          rw [e766, nI_clamp (by omega), nI_1]
          refine ⟨vp_in_nI (by omega) (by omega), ?_⟩
          have epf : f p / 7 ^ (zy_len (f p) - zn_mt n k (zy_len (f p))) = zy_pf (f p) (zn_mt n k (zy_len (f p))) := rfl
          rw [epf, zn_ak_push]
          exact next
  have := loop P 0 (by omega)
  refine sg_48_0 hY _ _ ?_
  rw [e1]
  have e0 : zx_u2 (zx_u2 (zx_u2 I 76 7 (nI n)) 76 8 (nI (max 1 (n - k)))) 76 6 0 = zn_ak I n (max 1 (n - k)) (zn_bs f n k 0) := by
    unfold zn_ak
    rw [show zn_bs f n k 0 = [] from rfl, zo_wr_nil]; rfl
  rw [e0]
  exact this
end YCt
