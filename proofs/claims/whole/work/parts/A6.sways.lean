/-! ===== search: the class counts the states ===== -/
def zs_cp (n : Nat) : Nat := min n 20001
theorem zs_cp_le (n : Nat) : zs_cp n ≤ 20001 := by unfold zs_cp; omega
theorem zs_cp_id {n : Nat} (h : n ≤ 20001) : zs_cp n = n := by unfold zs_cp; omega
theorem zs_cp_add {a b : Nat} : zs_cp (zs_cp a + zs_cp b) = zs_cp (a + b) := by unfold zs_cp; omega
theorem zs_cp_mul {a b : Nat} : zs_cp (zs_cp a * zs_cp b) = zs_cp (a * b) := by
  by_cases ha : a ≤ 20001
  · by_cases hb : b ≤ 20001
    · rw [zs_cp_id ha, zs_cp_id hb]
    · rw [zs_cp_id ha, show zs_cp b = 20001 by unfold zs_cp; omega]
      by_cases z : a = 0
      · rw [z, Nat.zero_mul, Nat.zero_mul]
      · have h1 : 1 * 20001 ≤ a * 20001 := Nat.mul_le_mul_right _ (by omega)
        have h2 : 1 * b ≤ a * b := Nat.mul_le_mul_right _ (by omega)
        unfold zs_cp; omega
  · rw [show zs_cp a = 20001 by unfold zs_cp; omega]
    by_cases z : b = 0
    · rw [z, show zs_cp 0 = 0 by decide, Nat.mul_zero, Nat.mul_zero]
    · have h0 : 1 ≤ zs_cp b := by unfold zs_cp; omega
      have h1 : 20001 * 1 ≤ 20001 * zs_cp b := Nat.mul_le_mul_left _ h0
      have h2 : a * 1 ≤ a * b := Nat.mul_le_mul_left _ (by omega)
      have e1 : zs_cp (20001 * zs_cp b) = 20001 := by
        generalize 20001 * zs_cp b = x at h1
        unfold zs_cp; omega
      have e2 : zs_cp (a * b) = 20001 := by
        generalize a * b = x at h2
        unfold zs_cp; omega
      rw [e1, e2]
def zs_fw (I J : Nat → Nat → Int32) : Prop := ∀ a k, ¬ (50 ≤ a ∧ a ≤ 59) → J a k = I a k
def zs_Aw (I : Nat → Nat → Int32) (f π : Nat → Nat) (W : Nat → Nat → Nat) (j : Nat) : Prop := ∀ i, i < j → ∀ x, x ≤ zy_len (f (π i)) → I (50 + i) x = nI (zs_cp (W i x))
section YU
variable {l : Launch} {E : zx_E} {d : Nat} {I : Nat → Nat → Int32} {L : Nat → Nat → Int64} {Y : zx_Y} {Qo : Option Value → zx_M → Prop} {Q : Int32 → zx_M → Prop} {Ql : Int64 → zx_M → Prop} {Qv : zx_M → Prop} {f π fr : Nat → Nat} {P N m G lg b : Nat}
theorem zy_34 (hY : zx_lay Y) {n : Nat} (hn : n < 2 ^ 31) (hq : Q (nI (zs_cp n)) (I, L, Y)) : zx_Ci l E (d + 1) 34 [.int (nI n)] (I, L, Y) Q := by
  refine sg_34_0 hY _ ⟨_, rfl, ?_⟩
  have e : (if (20001 : Int32) < nI n then (20001 : Int32) else nI n) = nI (zs_cp n) := by
    rw [show (20001 : Int32) = nI 20001 from rfl]
    by_cases z : 20001 < n
    · rw [if_pos ((nI_ltI (by omega) hn).mpr z), show zs_cp n = 20001 by unfold zs_cp; omega]
    · rw [if_neg (fun q => z ((nI_ltI (by omega) hn).mp q)), zs_cp_id (by omega)]
  rw [e]; exact hq
theorem zy_33 (hY : zx_lay Y) {i n : Nat} (hi : i < 10) (hn : n ≤ 8) (h26 : I 26 i = nI n) {w : Nat → Nat} (hw : ∀ x, x ≤ n → I (50 + i) x = nI (zs_cp (w x)))
    (hq : ∀ J, (∀ a k, a ≠ 50 + i → J a k = I a k) → (∀ x, x ≤ n → J (50 + i) x = nI (zs_cp (zs_ab w (n + 1 - x) x))) → Qv (J, L, Y)) : zx_Cv l E (d + 2) 33 [.ref 23, .int (nI i)] (I, L, Y) Qv := by
  have hin : vp_in (nI i) 10 := vp_in_nI hi (by omega)
  have cl : (nI i).toNatClampNeg = i := nI_clamp (by omega)
  refine sg_33_0 hY _ ⟨hin, ?_⟩
  rw [cl, h26, zg_pd_sub]
  have key : ∀ j J, j ≤ n → (∀ a k, a ≠ 50 + i → J a k = I a k) → (∀ x, x < j → J (50 + i) x = nI (zs_cp (w x))) → (∀ x, j ≤ x → x ≤ n → J (50 + i) x = nI (zs_cp (zs_ab w (n + 1 - x) x))) →
      zx_To l E (d + 2) 33 9 [some (.ref 23), some (.int (nI i)), some (.int (zg_pd j))] [] (J, L, Y) (fun r M' => r = none ∧ Qv M') := by
    intro j
    induction j with
    | zero =>
      intro J _ j1 j2 j3
      exact sg_33_9 hY _ _ ⟨fun _ => ⟨rfl, hq J j1 (fun x hx => j3 x (by omega) hx)⟩, fun h => absurd (by decide : (-1 : Int32) < 0) h⟩
    | succ j ih =>
      intro J hj j1 j2 j3
      have e49 : Y.1 49 (nI i).toNatClampNeg = some (50 + i) := by rw [cl]; exact (zs_27 hY hi).2.2
      obtain ⟨k1, k2⟩ := (zs_28 (I := J) (L := L) hY hi).2.2
      refine sg_33_9 hY _ _ ⟨fun h => absurd h (nI_pos (by omega)), fun _ => ⟨hin, 50 + i, e49, hin, 50 + i, e49, Or.inl k1, by rw [k2]; exact vp_in_nI (n := j) (by omega) (by omega), hin, 50 + i, e49, Or.inl k1, ?_, ?_⟩⟩
      · rw [k2]
        show vp_in (nI j + 1) 9
        rw [nI_1]; exact vp_in_nI (by omega) (by omega)
      show zx_Ci l E (d + 1) 34 [.int (J (50 + i) (nI j).toNatClampNeg + J (50 + i) (nI j + 1).toNatClampNeg)] (J, L, Y) _
      have c1 := zs_cp_le (w j)
      have c2 := zs_cp_le (zs_ab w (n + 1 - (j + 1)) (j + 1))
      rw [nI_1, nI_clamp (by omega), nI_clamp (by omega), j2 j (by omega), j3 (j + 1) (by omega) (by omega), nI_add]
      refine zy_34 hY (by omega) ⟨hY, k1, by rw [k2]; exact vp_in_nI (n := j) (by omega) (by omega), ?_⟩
      rw [zs_cp_add, show n + 1 - (j + 1) = n - j by omega]
      show zx_To l E (d + 2) 33 9 [some (.ref 23), some (.int (nI i)), some (.int (nI j + (-1)))] [] (zx_u2 J (50 + i) (nI j).toNatClampNeg _, L, Y) _
      rw [nI_clamp (by omega), zg_pd_add]
      refine ih _ (by omega) (fun a k ha => by rw [zy_u2_na ha]; exact j1 a k ha) (fun x hx => by rw [zy_u2_nk (by omega)]; exact j2 x (by omega)) (fun x x1 x2 => ?_)
      by_cases z : x = j
      · rw [z, zy_u2_self, show n + 1 - j = (n - j) + 1 by omega, zs_ab]
      · rw [zy_u2_nk z]; exact j3 x (by omega) x2
  refine key n I (Nat.le_refl _) (fun a k _ => rfl) (fun x hx => hw x (by omega)) (fun x x1 x2 => ?_)
  rw [show x = n by omega, hw n (Nat.le_refl _), show n + 1 - n = 1 by omega]
  rfl
theorem zy_31 (hY : zx_lay Y) (hF : zs_F f P) (hO : zs_Om f 10 N π) (hU : zs_U1 I f N π) (h26 : ∀ i, i < N → I 26 i = nI (zy_len (f (π i)))) (hb : b < 2 ^ 31)
    (hq : ∀ J, zs_fw I J → Q (nI (zs_cp (zs_nV f π N b))) (J, L, Y)) : zx_Ci l E (d + 3) 31 [.ref 23, .int (nI b)] (I, L, Y) Q := by
  have hN := hO.1
  have h8 := zs_8 hF hO
  have hf : ∀ i, i < N → f (π i) < 5764801 := fun i hi => (hF.2.1 _ (hO.2.1 i hi).1).1
  refine sg_31_0 hY _ ?_
  -- from the last place to the first
  have back : ∀ j, j ≤ N → ∀ J W all, zs_fw I J → zs_Aw J f π W j → all * zs_S f π N W j = zs_nV f π N b →
      zx_To l E (d + 3) 31 89 [some (.ref 23), none, some (.int (nI (zs_cp all))), some (.int (zg_pd j)), none, none] [] (J, L, Y) (fun r M' => ∃ v, r = some (.int v) ∧ Q v M') := by
    intro j
    induction j with
    | zero =>
      intro _ J W all hfw _ ht
      refine sg_31_89 hY _ _ ⟨fun _ => ⟨_, rfl, ?_⟩, fun h => absurd (by decide : (-1 : Int32) < 0) h⟩
      have : zs_S f π N W 0 = 1 := rfl
      rw [this, Nat.mul_one] at ht
      rw [ht]; exact hq J hfw
    | succ j ih =>
      intro hj J W all hfw hA ht
      have hjN : j < N := by omega
      have hin : vp_in (nI j) 10 := vp_in_nI (by omega) (by omega)
      have l8 := h8 j hjN
      have jU : zs_U1 J f N π := ⟨by rw [hfw _ _ (by omega)]; exact hU.1, fun i hi => by rw [hfw _ _ (by omega), hfw _ _ (by omega)]; exact hU.2 i hi⟩
      -- the last place of its name
      have go : zs_lst f π N j = true → zx_Cv l E (d + 2) 33 [.ref 23, .int (nI j)] (J, L, Y) (fun M1 => zx_lay M1.2.2 ∧ zx_Ci l E (d + 2) 35 [.ref 23, .int (nI j)] (M1.1, M1.2.1, M1.2.2) (fun v3 M2 => zx_lay M2.2.2 ∧ ((0 ≤ v3 → zx_To l E (d + 3) 31 160 [some (.ref 23), none, some (.int (nI (zs_cp all))), some (.int (nI j)), some (.int v3), some (.int 0)] [] (M2.1, M2.2.1, M2.2.2) (fun r M' => ∃ v, r = some (.int v) ∧ Q v M')) ∧
          (¬ 0 ≤ v3 → vp_in (nI j) 10 ∧ ∃ q4, M2.2.2.1 49 (nI j).toNatClampNeg = some q4 ∧ zx_ia (M2.1, M2.2.1, M2.2.2) q4 ∧ vp_in 0 (zx_ln (M2.1, M2.2.1, M2.2.2) q4) ∧ zx_Ci l E (d + 2) 34 [.int (nI (zs_cp all) * M2.1 q4 (0 : Int32).toNatClampNeg)] (M2.1, M2.2.1, M2.2.2) (fun v6 M5 => zx_lay M5.2.2 ∧ zx_To l E (d + 3) 31 89 [some (.ref 23), none, some (.int v6), some (.int (nI j + (-1))), none, none] [] (M5.1, M5.2.1, M5.2.2) (fun r M' => ∃ v, r = some (.int v) ∧ Q v M')))))) := fun hl => by
        refine zy_33 hY (by omega) l8 (by rw [hfw _ _ (by omega)]; exact h26 j hjN) (hA j (by omega)) (fun J1 g1 g2 => ⟨hY, ?_⟩)
        have hfw1 : zs_fw I J1 := fun a k ha => by rw [g1 a k (by omega)]; exact hfw a k ha
        have jU1 : zs_U1 J1 f N π := ⟨by rw [hfw1 _ _ (by omega)]; exact hU.1, fun i hi => by rw [hfw1 _ _ (by omega), hfw1 _ _ (by omega)]; exact hU.2 i hi⟩
        refine zy_35 hY jU1 hN hf hjN (fun a a1 a2 a3 => ⟨hY, fun _ => ?_, fun h => absurd (nI_pos' (by omega)) h⟩) (fun hno => ⟨hY, fun h => absurd h (by decide), fun _ => ?_⟩)
        · -- into the one ahead
          have hd := zs_hd_some a1 a2 a3
          have la8 := h8 a (by omega)
          have laj : zy_len (f (π a)) ≤ zy_len (f (π j)) := by
            have := congrArg zy_len a2.2
            rw [zy_len_pf] at this; omega
          have ain : vp_in (nI a) 10 := vp_in_nI (by omega) (by omega)
          have loop : ∀ r x, x + r = zy_len (f (π a)) + 1 → ∀ J2, (∀ a' k, a' ≠ 50 + a → J2 a' k = J1 a' k) → (∀ y, y < x → J2 (50 + a) y = nI (zs_cp (W a y * zs_ab (W j) (zy_len (f (π j)) + 1 - y) y))) → (∀ y, x ≤ y → y ≤ zy_len (f (π a)) → J2 (50 + a) y = nI (zs_cp (W a y))) →
              zx_To l E (d + 3) 31 160 [some (.ref 23), none, some (.int (nI (zs_cp all))), some (.int (nI j)), some (.int (nI a)), some (.int (nI x))] [] (J2, L, Y) (fun r M' => ∃ v, r = some (.int v) ∧ Q v M') := by
            intro r
            induction r with
            | zero =>
              intro x hx J2 b1 b2 b3
              refine sg_31_160 hY _ _ _ _ ⟨ain, fun _ => ?_, fun h => ?_⟩
              · rw [zg_pd_add]
                refine ih (by omega) J2 (fun i => if i = a then (fun y => W a y * zs_ab (W j) (zy_len (f (π j)) + 1 - y) y) else W i) all (fun c k hc => by rw [b1 c k (by omega)]; exact hfw1 c k hc) (fun i hi y hy => ?_) ?_
                · dsimp only
                  by_cases z : i = a
                  · rw [if_pos z]
                    rw [z] at hy ⊢
                    exact b2 y (by omega)
                  · rw [if_neg z, b1 _ _ (by omega), g1 _ _ (by omega)]
                    exact hA i (by omega) y hy
                · rw [← ht, zs_S_some h8 hjN hl hd (W' := fun i => if i = a then (fun y => W a y * zs_ab (W j) (zy_len (f (π j)) + 1 - y) y) else W i) (fun i hi => if_neg hi) (fun y _ => by rw [if_pos rfl])]
              · rw [nI_clamp (by omega), b1 _ _ (by omega), hfw1 _ _ (by omega), h26 a (by omega), nI_ltI (by omega) (by omega)] at h; omega
            | succ r ih2 =>
              intro x hx J2 b1 b2 b3
              have ea : Y.1 49 (nI a).toNatClampNeg = some (50 + a) := by rw [nI_clamp (by omega)]; exact (zs_27 hY (by omega)).2.2
              have ej : Y.1 49 (nI j).toNatClampNeg = some (50 + j) := by rw [nI_clamp (by omega)]; exact (zs_27 hY (by omega)).2.2
              obtain ⟨ka1, ka2⟩ := (zs_28 (I := J2) (L := L) hY (show a < 10 by omega)).2.2
              obtain ⟨kj1, kj2⟩ := (zs_28 (I := J2) (L := L) hY (show j < 10 by omega)).2.2
              refine sg_31_160 hY _ _ _ _ ⟨ain, fun h => ?_, fun _ => ⟨ain, 50 + a, ea, ain, 50 + a, ea, Or.inl ka1, by rw [ka2]; exact vp_in_nI (by omega) (by omega), hin, 50 + j, ej, Or.inl kj1, by rw [kj2]; exact vp_in_nI (by omega) (by omega), ?_⟩⟩
              · rw [nI_clamp (by omega), b1 _ _ (by omega), hfw1 _ _ (by omega), h26 a (by omega), nI_ltI (by omega) (by omega)] at h; omega
              · have c1 := zs_cp_le (W a x)
                have c2 := zs_cp_le (zs_ab (W j) (zy_len (f (π j)) + 1 - x) x)
                have c3 : zs_cp (W a x) * zs_cp (zs_ab (W j) (zy_len (f (π j)) + 1 - x) x) ≤ 20001 * 20001 := Nat.mul_le_mul c1 c2
                rw [nI_clamp (by omega), b3 x (Nat.le_refl _) (by omega), b1 _ _ (by omega), g2 x (by omega), show nI (zs_cp (W a x)) * nI (zs_cp (zs_ab (W j) (zy_len (f (π j)) + 1 - x) x)) = nI (zs_cp (W a x) * zs_cp (zs_ab (W j) (zy_len (f (π j)) + 1 - x) x)) from (Int32.ofNat_mul _ _).symm]
                refine zy_34 hY (by omega) ⟨hY, ka1, by rw [ka2]; exact vp_in_nI (by omega) (by omega), ?_⟩
                rw [zs_cp_mul, nI_1]
                refine ih2 (x + 1) (by omega) _ (fun c k hc => by rw [zy_u2_na hc]; exact b1 c k hc) (fun y hy => ?_) (fun y y1 y2 => by rw [zy_u2_nk (by omega)]; exact b3 y (by omega) y2)
                by_cases z : y = x
                · rw [z, zy_u2_self]
                · rw [zy_u2_nk z]; exact b2 y (by omega)
          exact loop (zy_len (f (π a)) + 1) 0 (by omega) J1 (fun _ _ _ => rfl) (fun y hy => by omega) (fun y _ hy => by rw [g1 _ _ (by omega)]; exact hA a (by omega) y hy)
        · -- nobody ahead
          have hd := zs_hd_none hno
          obtain ⟨kj1, kj2⟩ := (zs_28 (I := J1) (L := L) hY (show j < 10 by omega)).2.2
          refine ⟨hin, 50 + j, by rw [nI_clamp (by omega)]; exact (zs_27 hY (by omega)).2.2, Or.inl kj1, by rw [kj2, ← nI_0]; exact vp_in_nI (by omega) (by omega), ?_⟩
          have c1 := zs_cp_le all
          have c2 := zs_cp_le (zs_ab (W j) (zy_len (f (π j)) + 1 - 0) 0)
          have c3 : zs_cp all * zs_cp (zs_ab (W j) (zy_len (f (π j)) + 1 - 0) 0) ≤ 20001 * 20001 := Nat.mul_le_mul c1 c2
          show zx_Ci l E (d + 2) 34 [.int (nI (zs_cp all) * J1 (50 + j) (0 : Int32).toNatClampNeg)] (J1, L, Y) _
          rw [show (0 : Int32).toNatClampNeg = 0 by decide, g2 0 (by omega), show nI (zs_cp all) * nI (zs_cp (zs_ab (W j) (zy_len (f (π j)) + 1 - 0) 0)) = nI (zs_cp all * zs_cp (zs_ab (W j) (zy_len (f (π j)) + 1 - 0) 0)) from (Int32.ofNat_mul _ _).symm]
          refine zy_34 hY (by omega) ⟨hY, ?_⟩
          rw [zs_cp_mul, zg_pd_add]
          refine ih (by omega) J1 W _ hfw1 (fun i hi y hy => by rw [g1 _ _ (by omega)]; exact hA i (by omega) y hy) ?_
          rw [← ht, zs_S_none h8 hjN hl hd, Nat.sub_zero, Nat.mul_assoc]
      rw [show zg_pd (j + 1) = nI j from rfl]
      refine sg_31_89 hY _ _ ⟨fun h => absurd h (nI_pos (by omega)), fun _ => ?_⟩
      show (J 23 7 ≤ nI j + 1 → _) ∧ (¬ J 23 7 ≤ nI j + 1 → _)
      rw [jU.1, nI_1, nI_leI (by omega) (by omega)]
      refine ⟨fun h => go ?_, fun h => ⟨vp_in_nI (by omega) (by omega), hin, ?_⟩⟩
      · unfold zs_lst
        rw [decide_eq_false (by omega)]; rfl
      · have f1 := hf (j + 1) (by omega)
        have f2 := hf j hjN
        refine ⟨fun z => go ?_, fun z => ?_⟩
        all_goals rw [nI_clamp (by omega), nI_clamp (by omega), (jU.2 (j + 1) (by omega)).2, (jU.2 j hjN).2, nI_eq (by omega) (by omega)] at z
        · unfold zs_lst
          rw [decide_eq_false z, Bool.and_false]; rfl
        · have hl : zs_lst f π N j = false := by
            unfold zs_lst
            rw [decide_eq_true (by omega), decide_eq_true z]; rfl
          show zx_To l E (d + 3) 31 89 [some (.ref 23), none, some (.int (nI (zs_cp all))), some (.int (nI j + (-1))), none, none] [] (J, L, Y) _
          rw [zg_pd_add]
          rw [zs_S_skip hl] at ht
          exact ih (by omega) J W all hfw (fun i hi => hA i (by omega)) ht
  -- the first ways
  have forth : ∀ r i, i + r = N → ∀ J, zs_fw I J → zs_Aw J f π (zs_W0 f π N b) i →
      zx_To l E (d + 3) 31 2 [some (.ref 23), some (.int (nI b)), some (.int (nI i)), none, none, none] [] (J, L, Y) (fun r M' => ∃ v, r = some (.int v) ∧ Q v M') := by
    intro r
    induction r with
    | zero =>
      intro i hi J hfw hA
      have ei : i = N := by omega
      subst ei
      have e7 : J 23 7 = nI i := by rw [hfw _ _ (by omega)]; exact hU.1
      refine sg_31_2 hY _ _ ⟨fun _ => ?_, fun h => absurd (by rw [e7]; exact (nI_leI (by omega) (by omega)).mpr (Nat.le_refl _)) h⟩
      rw [e7, zg_pd_sub]
      exact back i (Nat.le_refl _) J (zs_W0 f π i b) 1 hfw hA (by rw [Nat.one_mul]; exact zs_S_W0)
    | succ r ih =>
      intro i hi J hfw hA
      have hiN : i < N := by omega
      have l8 := h8 i hiN
      have hin : vp_in (nI i) 10 := vp_in_nI (by omega) (by omega)
      have jU : zs_U1 J f N π := ⟨by rw [hfw _ _ (by omega)]; exact hU.1, fun k hk => by rw [hfw _ _ (by omega), hfw _ _ (by omega)]; exact hU.2 k hk⟩
      have inner : ∀ q x, x + q = zy_len (f (π i)) + 1 → ∀ J2, (∀ a k, a ≠ 50 + i → J2 a k = J a k) → (∀ y, y < x → J2 (50 + i) y = nI (zs_cp (zs_W0 f π N b i y))) → ∀ v : Int32, v = (if zs_stay f π N b i then 1 else 0) →
          zx_To l E (d + 3) 31 28 [some (.ref 23), some (.int (nI b)), some (.int (nI i)), some (.int v), some (.int (nI x)), none] [] (J2, L, Y) (fun r M' => ∃ v, r = some (.int v) ∧ Q v M') := by
        intro q
        induction q with
        | zero =>
          intro x hx J2 b1 b2 v hv
          have e26 : J2 26 i = nI (zy_len (f (π i))) := by rw [b1 _ _ (by omega), hfw _ _ (by omega)]; exact h26 i hiN
          refine sg_31_28 hY _ _ _ _ ⟨hin, fun _ => ?_, fun h => ?_⟩
          · rw [nI_1]
            refine ih (i + 1) (by omega) J2 (fun a k ha => by rw [b1 a k (by omega)]; exact hfw a k ha) (fun k hk y hy => ?_)
            by_cases z : k = i
            · rw [z] at hy ⊢
              exact b2 y (by omega)
            · rw [b1 _ _ (by omega)]; exact hA k (by omega) y hy
          · rw [nI_clamp (by omega), e26, nI_ltI (by omega) (by omega)] at h; omega
        | succ q ih2 =>
          intro x hx J2 b1 b2 v hv
          have e26 : J2 26 i = nI (zy_len (f (π i))) := by rw [b1 _ _ (by omega), hfw _ _ (by omega)]; exact h26 i hiN
          obtain ⟨ki1, ki2⟩ := (zs_28 (I := J2) (L := L) hY (show i < 10 by omega)).2.2
          have vin : vp_in (nI x) (zx_ln (J2, L, Y) (50 + i)) := by rw [ki2]; exact vp_in_nI (by omega) (by omega)
          have put : ∀ u : Int32, u = nI (zs_cp (zs_W0 f π N b i x)) → zx_To l E (d + 3) 31 28 [some (.ref 23), some (.int (nI b)), some (.int (nI i)), some (.int v), some (.int (nI x + 1)), none] [] (zx_u2 J2 (50 + i) (nI x).toNatClampNeg u, L, Y) (fun r M' => ∃ v, r = some (.int v) ∧ Q v M') := fun u hu => by
            rw [nI_1, nI_clamp (by omega)]
            refine ih2 (x + 1) (by omega) _ (fun a k ha => by rw [zy_u2_na ha]; exact b1 a k ha) (fun y hy => ?_) v hv
            by_cases z : y = x
            · rw [z, zy_u2_self, hu]
            · rw [zy_u2_nk z]; exact b2 y (by omega)
          refine sg_31_28 hY _ _ _ _ ⟨hin, fun h => ?_, fun _ => ⟨hin, 50 + i, by rw [nI_clamp (by omega)]; exact (zs_27 hY (by omega)).2.2, fun h => ⟨ki1, vin, put 1 ?_⟩, fun h => ⟨hin, fun h2 => ⟨ki1, vin, put 1 ?_⟩, fun h2 => ⟨ki1, vin, put 0 ?_⟩⟩⟩⟩
          · rw [nI_clamp (by omega), e26, nI_ltI (by omega) (by omega)] at h; omega
          · rw [hv, zy_b0] at h
            unfold zs_W0
            rw [h]; rfl
          · rw [nI_clamp (by omega), e26, nI_leI (by omega) (by omega)] at h2
            unfold zs_W0
            rw [decide_eq_false (show ¬ x < zy_len (f (π i)) by omega), Bool.and_false]; rfl
          · rw [hv, zy_b1] at h
            rw [nI_clamp (by omega), e26, nI_leI (by omega) (by omega)] at h2
            unfold zs_W0
            rw [h, decide_eq_true (show x < zy_len (f (π i)) by omega)]; rfl
      refine sg_31_2 hY _ _ ⟨fun h => ?_, fun _ => ?_⟩
      · rw [jU.1, nI_leI (by omega) (by omega)] at h; omega
      · have cn := zy_cnt_le (p := fun j => decide (f (π j) = f (π i))) N
        refine zy_32 hY hN jU hf hiN ⟨hY, ?_⟩
        rw [nI_leI (by omega) hb]
        refine ⟨fun h => inner (zy_len (f (π i)) + 1) 0 (by omega) J (fun _ _ _ => rfl) (fun y hy => by omega) 0 ?_, fun h => inner (zy_len (f (π i)) + 1) 0 (by omega) J (fun _ _ _ => rfl) (fun y hy => by omega) 1 ?_⟩
        · unfold zs_stay
          rw [decide_eq_false (by omega)]; rfl
        · unfold zs_stay
          rw [decide_eq_true (by omega)]; rfl
  exact forth N 0 (by omega) I (fun _ _ _ => rfl) (fun i hi => by omega)
end YU
