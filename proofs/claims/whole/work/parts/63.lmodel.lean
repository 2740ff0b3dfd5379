/-! ===== what a listener knows: the reference ===== -/
def zl_W (I : Nat → Nat → Int32) (F : List Nat) (g : Nat → Nat) : Nat → Nat → Int32 := zo_wr (zo_wr (zx_u2 I 132 44 (nI F.length)) 153 F) 154 (F.map g)
theorem zl_app_getD {F : List Nat} {c k : Nat} : (F ++ [c]).getD k 0 = if k = F.length then c else F.getD k 0 := by
  rw [List.getD_eq_getElem?_getD, List.getD_eq_getElem?_getD]
  by_cases h : k < F.length
  · rw [List.getElem?_append_left h, if_neg (by omega)]
  · rw [List.getElem?_append_right (by omega)]
    by_cases e : k = F.length
    · rw [if_pos e, e, Nat.sub_self]; rfl
    · rw [if_neg e, List.getElem?_eq_none (by simp; omega), List.getElem?_eq_none (by omega)]
theorem zl_W_ev {I : Nat → Nat → Int32} {F : List Nat} {g : Nat → Nat} (a k : Nat) : zl_W I F g a k = if a = 154 ∧ k < F.length then nI ((F.map g).getD k 0) else if a = 153 ∧ k < F.length then nI (F.getD k 0) else if a = 132 ∧ k = 44 then nI F.length else I a k := by
  unfold zl_W zo_wr zx_u2
  rw [List.length_map]
theorem zl_W_push {I : Nat → Nat → Int32} {F : List Nat} {g : Nat → Nat} {c : Nat} : zx_u2 (zx_u2 (zx_u2 (zl_W I F g) 153 F.length (nI c)) 154 F.length (nI (g c))) 132 44 (nI (F.length + 1)) = zl_W I (F ++ [c]) g := by
  funext a k
  unfold zx_u2
  rw [zl_W_ev, zl_W_ev, List.map_append, List.map_cons, List.map_nil, zl_app_getD, zl_app_getD, List.length_map, List.length_append, List.length_singleton]
  by_cases h2 : a = 154
  · subst h2
    by_cases e : k = F.length
    · simp [e]
    · by_cases z : k < F.length
      · have z2 : k < F.length + 1 := by omega
        simp [e, z, z2]
      · have z2 : ¬ k < F.length + 1 := by omega
        simp [e, z, z2]
  · by_cases h3 : a = 153
    · subst h3
      by_cases e : k = F.length
      · simp [e]
      · by_cases z : k < F.length
        · have z2 : k < F.length + 1 := by omega
          simp [e, z, z2]
        · have z2 : ¬ k < F.length + 1 := by omega
          simp [e, z, z2]
    · by_cases h1 : a = 132 ∧ k = 44
      · simp [h1]
      · simp [h1, h2, h3]
theorem zl_W_44 {I : Nat → Nat → Int32} {F : List Nat} {g : Nat → Nat} : zl_W I F g 132 44 = nI F.length := by unfold zl_W; rw [zo_wr_el (by omega), zo_wr_el (by omega), zy_u2_self]
theorem zl_W_el {I : Nat → Nat → Int32} {F : List Nat} {g : Nat → Nat} {a k : Nat} (h : a ≠ 153 ∧ a ≠ 154 ∧ ¬ (a = 132 ∧ k = 44)) : zl_W I F g a k = I a k := by unfold zl_W; rw [zo_wr_el h.2.1, zo_wr_el h.1, zy_u2_ne h.2.2]
def zw_ln : List (Nat × Nat × Nat) := [(132, 44, 47), (153, 0, 9331), (154, 0, 9331), (155, 0, 9331), (156, 0, 9331)]
theorem zl_W_fr {I : Nat → Nat → Int32} {F : List Nat} {g : Nat → Nat} (h : F.length ≤ 9331) : zy_fr zw_ln I (zl_W I F g) := fun a k hk => by
  have g0 : ¬ (a = 132 ∧ k = 44) := fun q => hk (by rw [q.1, q.2]; exact zy_in_at 0 132 44 47 44 rfl (by omega) (by omega))
  have g1 : ¬ (a = 153 ∧ k < F.length) := fun q => hk (by rw [q.1]; exact zy_in_at 1 153 0 9331 k rfl (by omega) (by omega))
  have g2 : ¬ (a = 154 ∧ k < F.length) := fun q => hk (by rw [q.1]; exact zy_in_at 2 154 0 9331 k rfl (by omega) (by omega))
  unfold zl_W zo_wr
  rw [List.length_map, if_neg g2, if_neg g1, zy_u2_ne g0]
section YLm
variable {l : Launch} {E : zx_E} {d : Nat} {I : Nat → Nat → Int32} {L : Nat → Nat → Int64} {Y : zx_Y} {Qo : Option Value → zx_M → Prop} {Q : Int32 → zx_M → Prop} {Qv : zx_M → Prop} {hc : Nat → Nat} {ha : Nat → Bool} {m w : Nat}
theorem zy_243 (hY : zx_lay Y) (hw6 : w ≤ 6) (hw : 1 ≤ w) {n x : Nat} (hn : n < 2 ^ 31) (hx : x < 2 ^ 31) (hq : Q (nI (zl_na w n x)) (I, L, Y)) : zx_Ci l E d 243 [.int (nI n), .int (nI x), .int (nI w)] (I, L, Y) Q := by
  have loop : ∀ r k code pw rest, r + k = n → rest < 2 ^ 31 → Q (nI (code + pw * zl_na w r rest)) (I, L, Y) → zx_To l E d 243 11 [some (.int (nI n)), none, some (.int (nI w)), some (.int (nI code)), some (.int (nI pw)), some (.int (nI rest)), some (.int (nI k))] [] (I, L, Y) (fun r M' => ∃ v, r = some (.int v) ∧ Q v M') := by
    intro r
    induction r with
    | zero =>
      intro k code pw rest hk hr hq
      rw [zl_na, Nat.mul_zero, Nat.add_zero] at hq
      exact sg_243_11 hY _ _ _ _ _ _ ⟨fun _ => ⟨_, rfl, hq⟩, fun h => absurd (nI_le (by omega) (by omega)) h⟩
    | succ r ih =>
      intro k code pw rest hk hr hq
      have hw0 : ¬ nI w = 0 := fun h => by have := (zy_eq0 (by omega)).mp h; omega
      refine sg_243_11 hY _ _ _ _ _ _ ⟨fun h => absurd ((nI_leI (by omega) (by omega)).mp h) (by omega), fun _ => ⟨hw0, hw0, ?_⟩⟩
      rw [pk_rem hr (by omega) (by omega), pk_div hr (by omega) (by omega), nI_1, nI_1, pk_mul, nI_add, show (7 : Int32) = nI 7 by decide, pk_mul]
      refine ih (k + 1) _ _ (rest / w) (by omega) (Nat.lt_of_le_of_lt (Nat.div_le_self _ _) hr) ?_
      rw [zl_na] at hq
      have e : code + (rest % w + 1) * pw + pw * 7 * zl_na w r (rest / w) = code + pw * (rest % w + 1 + 7 * zl_na w r (rest / w)) := by
        rw [Nat.mul_add, Nat.mul_assoc, Nat.mul_comm (rest % w + 1) pw, Nat.add_assoc]
      rw [e]
      exact hq
  refine sg_243_0 hY _ _ _ (loop n 0 0 1 x (by omega) hx ?_)
  rw [Nat.zero_add, Nat.one_mul]
  exact hq
theorem zl_D_W (hD : zl_D I hc ha m w) {F : List Nat} {g : Nat → Nat} : zl_D (zl_W I F g) hc ha m w := by
  obtain ⟨⟨m1, m2⟩, ⟨w1, w2, w3⟩, hh⟩ := hD
  refine ⟨⟨m1, ?_⟩, ⟨w1, w2, ?_⟩, fun t ht => ?_⟩
  · rw [zl_W_el (by omega)]; exact m2
  · rw [zl_W_el (by omega)]; exact w3
  · rw [zl_W_el (by omega), zl_W_el (by omega)]; exact hh t ht
theorem zy_249 (hY : zx_lay Y) (hD : zl_D I hc ha m w) (hq : Qv (zl_W I (zl_fits hc ha m w) (zl_v hc ha m), L, Y)) : zx_Cv l E (d + 1) 249 [.ref 132] (I, L, Y) Qv := by
  obtain ⟨⟨m1, m2⟩, ⟨w1, w2, w3⟩, hh⟩ := hD
  have hD : zl_D I hc ha m w := ⟨⟨m1, m2⟩, ⟨w1, w2, w3⟩, hh⟩
  have hN := (zl_of5 w2 w1).1
  have powle : ∀ n, n ≤ 5 → w ^ n ≤ 7776 := fun n hn => Nat.le_trans (Nat.pow_le_pow_left w2 n) (Nat.le_trans (Nat.pow_le_pow_right (by omega) hn) (by decide))
  -- the names of n + 1 letters, from the x-th on
  have inner : ∀ n, n < 5 → (zx_To l E (d + 1) 249 9 [some (.ref 132), some (.int (nI (w ^ (n + 1)))), some (.int (nI (n + 2))), none, none, none] [] (zl_W I (zl_F w (zl_p hc ha m) (zl_of w (n + 1))) (zl_v hc ha m), L, Y) (fun r M' => r = none ∧ Qv M')) →
      ∀ r x, r + x = w ^ (n + 1) → zx_To l E (d + 1) 249 23 [some (.ref 132), some (.int (nI (w ^ (n + 1)))), some (.int (nI (n + 1))), some (.int (nI x)), none, none] [] (zl_W I (zl_F w (zl_p hc ha m) (zl_of w n + x)) (zl_v hc ha m), L, Y) (fun r M' => r = none ∧ Qv M') := by
    intro n hn hnext r
    have hp := powle (n + 1) (by omega)
    induction r with
    | zero =>
      intro x hx
      refine sg_249_23 hY _ _ _ ⟨fun _ => ?_, fun h => absurd (nI_le (by omega) (by omega)) h⟩
      rw [nI_1, show zl_of w n + x = zl_of w (n + 1) by rw [zl_of]; omega]
      exact hnext
    | succ r ih =>
      intro x hx
      have hj : zl_of w n + x < zl_of w 5 := by
        have := zl_of_mono (w := w) 5 (n + 1) (by omega)
        rw [zl_of] at this; omega
      have eIt := zl_It_na w2 w1 n hn x (by omega)
      have b4 := (zl_It_ok w2 w1 hj).2.2.2
      have next := ih (x + 1) (by omega)
      rw [show zl_of w n + (x + 1) = zl_of w n + x + 1 by omega, zl_F] at next
      have hlen := (zl_F_ok (w := w) (p := zl_p hc ha m) (zl_of w n + x)).1
      have e36 : zl_W I (zl_F w (zl_p hc ha m) (zl_of w n + x)) (zl_v hc ha m) 132 36 = nI w := by rw [zl_W_el (by omega)]; exact w3
      refine sg_249_23 hY _ _ _ ⟨fun h => absurd ((nI_leI (by omega) (by omega)).mp h) (by omega), fun _ => ?_⟩
      rw [e36]
      refine zy_243 hY w2 w1 (by omega) (by omega) ⟨hY, ?_⟩
      rw [← eIt]
      refine zy_248 hY (zl_D_W hD) (by omega) ⟨hY, ?_⟩
      dsimp only
      rw [nI_1]
      cases hz : zl_hb hc ha m 0 (zl_It w (zl_of w n + x)) with
      | none =>
        rw [if_neg (by unfold zl_p; rw [hz]; decide)] at next
        exact ⟨fun _ => next, fun h => absurd (show (-1 : Int32) < 0 by decide) h⟩
      | some v =>
        have hv := zl_hb_lt m 0 _ _ hz
        rw [if_pos (by unfold zl_p; rw [hz]; rfl)] at next
        refine ⟨fun h => absurd h (show ¬ nI v < 0 from nI_pos (by omega)), fun _ => ?_⟩
        rw [zl_W_44, nI_clamp (by omega), nI_1]
        refine ⟨vp_in_nI (by omega) (by omega), vp_in_nI (by omega) (by omega), ?_⟩
        have ev : v = zl_v hc ha m (zl_It w (zl_of w n + x)) := by unfold zl_v; rw [hz]; rfl
        show zx_To l E (d + 1) 249 23 [some (.ref 132), some (.int (nI (w ^ (n + 1)))), some (.int (nI (n + 1))), some (.int (nI (x + 1))), none, none] [] (zx_u2 (zx_u2 (zx_u2 (zl_W I (zl_F w (zl_p hc ha m) (zl_of w n + x)) (zl_v hc ha m)) 153 (zl_F w (zl_p hc ha m) (zl_of w n + x)).length (nI (zl_It w (zl_of w n + x)))) 154 (zl_F w (zl_p hc ha m) (zl_of w n + x)).length (nI v)) 132 44 (nI ((zl_F w (zl_p hc ha m) (zl_of w n + x)).length + 1)), L, Y) _
        rw [ev, zl_W_push]
        exact next
  have outer : ∀ r n, r + n = 5 → zx_To l E (d + 1) 249 9 [some (.ref 132), some (.int (nI (w ^ n))), some (.int (nI (n + 1))), none, none, none] [] (zl_W I (zl_F w (zl_p hc ha m) (zl_of w n)) (zl_v hc ha m), L, Y) (fun r M' => r = none ∧ Qv M') := by
    intro r
    induction r with
    | zero =>
      intro n hn
      have en : n = 5 := by omega
      subst en
      exact sg_249_9 hY _ _ ⟨fun _ => ⟨rfl, hq⟩, fun h => absurd (by decide) h⟩
    | succ r ih =>
      intro n hn
      have e36 : zl_W I (zl_F w (zl_p hc ha m) (zl_of w n)) (zl_v hc ha m) 132 36 = nI w := by rw [zl_W_el (by omega)]; exact w3
      refine sg_249_9 hY _ _ ⟨fun h => absurd ((nI_ltI (a := 5) (by omega) (by omega)).mp h) (by omega), fun _ => ?_⟩
      rw [e36, pk_mul, ← Nat.pow_succ]
      have := inner n (by omega) (ih (n + 1) (by omega)) (w ^ (n + 1)) 0 (by omega)
      rw [Nat.add_zero] at this
      exact this
  have e0 : zx_u2 I 132 44 0 = zl_W I (zl_F w (zl_p hc ha m) (zl_of w 0)) (zl_v hc ha m) := by
    unfold zl_W
    rw [show zl_F w (zl_p hc ha m) (zl_of w 0) = [] from rfl, List.map_nil, zo_wr_nil, zo_wr_nil]; rfl
  refine sg_249_0 hY ?_
  rw [e0]
  exact outer 5 0 rfl
/-- sorting what is sorted changes nothing but the row beside -/
theorem zy_250 (hY : zx_lay Y) {s : Nat → Nat} (hs : ∀ j, s j < 2 ^ 31) {N : Nat} (hN : N ≤ 9331) (hm : ∀ i j, i ≤ j → j < N → s i ≤ s j) : ∀ (k d a b : Nat) (J : Nat → Nat → Int32) (Qv : zx_M → Prop), a ≤ b → b ≤ N → b - a ≤ 2 ^ k → (∀ j, j < N → J 155 j = nI (s j)) → (∀ J', zy_fr [(156, 0, 9331)] J J' → Qv (J', L, Y)) → zx_Cv l E (d + k + 1) 250 [.ref 132, .int (nI a), .int (nI b)] (J, L, Y) Qv := by
  intro k
  have small : ∀ (d a b : Nat) (J : Nat → Nat → Int32) (Qv : zx_M → Prop), a ≤ b → b ≤ N → b - a < 2 → (∀ J', zy_fr [(156, 0, 9331)] J J' → Qv (J', L, Y)) → zx_Cv l E (d + 1) 250 [.ref 132, .int (nI a), .int (nI b)] (J, L, Y) Qv := by
    intro d a b J Qv hab hb hlt hq
    refine sg_250_0 hY _ _ ⟨fun h => ?_, fun _ => ⟨rfl, hq J (zy_fr_rf _ _)⟩⟩
    rw [pk_sub hab] at h
    exact absurd ((nI_leI (a := 2) (by omega) (by omega)).mp h) (by omega)
  induction k with
  | zero =>
    intro d a b J Qv hab hb hk hJ hq
    exact small d a b J Qv hab hb (by rw [Nat.pow_zero] at hk; omega) hq
  | succ k ih =>
    intro d a b J Qv hab hb hk hJ hq
    rw [Nat.pow_succ] at hk
    by_cases h2 : b - a < 2
    · rw [show d + (k + 1) + 1 = d + k + 1 + 1 by omega]
      exact small (d + k + 1) a b J Qv hab hb h2 hq
    · have emid : (nI a + nI b) / 2 = nI ((a + b) / 2) := by rw [nI_add]; exact pk_div (a := a + b) (d := 2) (by omega) (by omega) (by omega)
      generalize hmid : (a + b) / 2 = mid at *
      have k155 : ∀ J1 : Nat → Nat → Int32, (∀ j, j < N → J1 155 j = nI (s j)) → ∀ J2, zy_fr [(156, 0, 9331)] J1 J2 → ∀ j, j < N → J2 155 j = nI (s j) := fun J1 h1 J2 hf j hj => by
        rw [zy_fr_row hf 155 9331 (by decide) (by omega)]; exact h1 j hj
      refine sg_250_0 hY _ _ ⟨fun _ => ?_, fun h => ?_⟩
      · rw [emid]
        rw [show d + (k + 1) = d + k + 1 by omega]
        refine ih d a mid J _ (by omega) (by omega) (by omega) hJ (fun J1 hf1 => ⟨hY, ih d mid b J1 _ (by omega) (by omega) (by omega) (k155 J hJ J1 hf1) (fun J2 hf2 => ⟨hY, ?_⟩)⟩)
        have hf12 : zy_fr [(156, 0, 9331)] J J2 := zy_fr_tr hf1 hf2
        have h155 := k155 J hJ J2 hf12
        -- back
        have back : ∀ r j J3, r + j = b → zy_fr [(156, 0, 9331)] J J3 → (∀ i, a ≤ i → i < b → J3 156 i = nI (s i)) → a ≤ j → zx_To l E (d + k + 1 + 1) 250 143 [some (.ref 132), none, some (.int (nI b)), none, none, none, some (.int (nI j)), none] [] (J3, L, Y) (fun r M' => r = none ∧ Qv M') := by
          intro r
          induction r with
          | zero =>
            intro j J3 hj hf3 h156 haj
            exact sg_250_143 hY _ _ ⟨fun _ => ⟨rfl, hq J3 hf3⟩, fun h => absurd (nI_le (by omega) (by omega)) h⟩
          | succ r ihr =>
            intro j J3 hj hf3 h156 haj
            have hv := vp_in_nI (n := j) (N := 9331) (by omega) (by omega)
            refine sg_250_143 hY _ _ ⟨fun h => absurd ((nI_leI (by omega) (by omega)).mp h) (by omega), fun _ => ⟨hv, hv, ?_⟩⟩
            rw [nI_clamp (by omega), nI_1, zy_u2_sm (by rw [h156 j haj (by omega)]; exact k155 J hJ J3 hf3 j (by omega))]
            exact ihr (j + 1) J3 (by omega) hf3 h156 (by omega)
        -- one into the row beside
        have one : ∀ (J3 : Nat → Nat → Int32) (x4 x5 x6 : Nat) (y : Bool), x6 < 9331 → (y = true → x4 < 9331) → (y = false → x5 < 9331) → (∀ j, j < N → J3 155 j = nI (s j)) →
            zx_To l E (d + k + 1 + 1) 250 35 [some (.ref 132), some (.int (nI a)), some (.int (nI b)), some (.int (nI mid)), some (.int (nI (if y then x4 + 1 else x4))), some (.int (nI (if y then x5 else x5 + 1))), some (.int (nI (x6 + 1))), none] [] (zx_u2 J3 156 x6 (J3 155 (if y then x4 else x5)), L, Y) (fun r M' => r = none ∧ Qv M') →
            zx_To l E (d + k + 1 + 1) 250 75 [some (.ref 132), some (.int (nI a)), some (.int (nI b)), some (.int (nI mid)), some (.int (nI x4)), some (.int (nI x5)), some (.int (nI x6)), none] [.int (if y then 1 else 0)] (J3, L, Y) (fun r M' => r = none ∧ Qv M') := by
          intro J3 x4 x5 x6 y h6 h4 h5 h155 hgo
          refine sg_250_75 hY _ _ _ _ _ _ _ ⟨fun h => ?_, fun h => ?_⟩
          · rw [zy_b0] at h
            subst h
            rw [nI_clamp (by have := h5 rfl; omega)]
            refine ⟨vp_in_nI (h5 rfl) (by omega), sg_250_105 hY _ _ _ _ _ _ _ _ _ ⟨vp_in_nI h6 (by omega), ?_⟩⟩
            rw [nI_clamp (by omega)]
            refine zy_169b (b := false) hY ⟨hY, fun h => absurd rfl h, fun _ => sg_250_128 hY _ _ _ _ _ _ _ (zy_169b (b := true) hY ⟨hY, ?_⟩)⟩
            dsimp only
            rw [nI_1]
            have e1 : nI x4 + nI (if false then 1 else 0) = nI x4 := by show nI x4 + nI 0 = nI x4; rw [nI_0, Int32.add_zero]
            have e2 : nI x5 + nI (if true then 1 else 0) = nI (x5 + 1) := nI_add x5 1
            rw [e1, e2]
            exact hgo
          · rw [zy_b1] at h
            subst h
            rw [nI_clamp (by have := h4 rfl; omega)]
            refine ⟨vp_in_nI (h4 rfl) (by omega), sg_250_105 hY _ _ _ _ _ _ _ _ _ ⟨vp_in_nI h6 (by omega), ?_⟩⟩
            rw [nI_clamp (by omega)]
            refine zy_169b (b := true) hY ⟨hY, fun _ => sg_250_128 hY _ _ _ _ _ _ _ (zy_169b (b := false) hY ⟨hY, ?_⟩), fun h => absurd h (by decide)⟩
            dsimp only
            rw [nI_1]
            have e1 : nI x5 + nI (if false then 1 else 0) = nI x5 := by show nI x5 + nI 0 = nI x5; rw [nI_0, Int32.add_zero]
            have e2 : nI x4 + nI (if true then 1 else 0) = nI (x4 + 1) := nI_add x4 1
            rw [e1, e2]
            exact hgo
        have loop : ∀ r j J3, r + j = b → a ≤ j → zy_fr [(156, 0, 9331)] J J3 → (∀ i, a ≤ i → i < j → J3 156 i = nI (s i)) → zx_To l E (d + k + 1 + 1) 250 35 [some (.ref 132), some (.int (nI a)), some (.int (nI b)), some (.int (nI mid)), some (.int (nI (min j mid))), some (.int (nI (max j mid))), some (.int (nI j)), none] [] (J3, L, Y) (fun r M' => r = none ∧ Qv M') := by
          intro r
          induction r with
          | zero =>
            intro j J3 hj haj hf3 h156
            refine sg_250_35 hY _ _ _ _ _ _ ⟨fun _ => back (b - a) a J3 (by omega) hf3 (fun i h1 h2 => h156 i h1 (by omega)) (Nat.le_refl _), fun h => absurd (nI_le (by omega) (by omega)) h⟩
          | succ r ihr =>
            intro j J3 hj haj hf3 h156
            have h3 := k155 J hJ J3 hf3
            have step : ∀ y : Bool, (y = decide (j < mid)) → zx_To l E (d + k + 1 + 1) 250 75 [some (.ref 132), some (.int (nI a)), some (.int (nI b)), some (.int (nI mid)), some (.int (nI (min j mid))), some (.int (nI (max j mid))), some (.int (nI j)), none] [.int (if y then 1 else 0)] (J3, L, Y) (fun r M' => r = none ∧ Qv M') := by
              intro y hy
              refine one J3 _ _ j y (by omega) (fun _ => by omega) (fun _ => by omega) h3 ?_
              have e1 : (if y then min j mid + 1 else min j mid) = min (j + 1) mid := by
                cases y with
                | true => have : j < mid := by simpa using hy.symm
                          show min j mid + 1 = _; omega
                | false => have : ¬ j < mid := by simpa using hy.symm
                           show min j mid = _; omega
              have e2 : (if y then max j mid else max j mid + 1) = max (j + 1) mid := by
                cases y with
                | true => have : j < mid := by simpa using hy.symm
                          show max j mid = _; omega
                | false => have : ¬ j < mid := by simpa using hy.symm
                           show max j mid + 1 = _; omega
              have e3 : (if y then min j mid else max j mid) = j := by
                cases y with
                | true => have : j < mid := by simpa using hy.symm
                          show min j mid = _; omega
                | false => have : ¬ j < mid := by simpa using hy.symm
                           show max j mid = _; omega
              rw [e1, e2, e3]
              refine ihr (j + 1) _ (by omega) (by omega) (zy_fr_u2 hf3 (zy_in_at 0 156 0 9331 j rfl (by omega) (by omega))) (fun i h1 h2 => ?_)
              by_cases e : i = j
              · subst e; rw [zy_u2_self]; exact h3 i (by omega)
              · rw [zy_u2_nk e]; exact h156 i h1 (by omega)
            refine sg_250_35 hY _ _ _ _ _ _ ⟨fun h => absurd ((nI_leI (by omega) (by omega)).mp h) (by omega), fun _ => ⟨fun h => ?_, fun _ => ⟨fun h => ?_, fun h => ?_⟩⟩⟩
            · exact absurd ((nI_eq (by omega) (by omega)).mp h) (by omega)
            · have := (nI_leI (by omega) (by omega)).mp h
              exact sg_250_74 hY _ _ _ _ _ _ (step false (by rw [decide_eq_false (by omega)]))
            · have hjm : j < mid := by
                by_cases z : j < mid
                · exact z
                · exact absurd (nI_le (by omega) (by omega)) h
              rw [nI_clamp (by omega), nI_clamp (by omega), h3 _ (by omega), h3 _ (by omega), nI_ltI (hs _) (hs _)]
              refine ⟨vp_in_nI (by omega) (by omega), vp_in_nI (by omega) (by omega), fun h4 => ?_, fun _ => ?_⟩
              · have := hm (min j mid) (max j mid) (by omega) (by omega)
                omega
              · exact sg_250_70 hY _ _ _ _ _ _ (step true (by rw [decide_eq_true hjm]))
        have := loop (b - a) a J2 (by omega) (Nat.le_refl _) hf12 (fun i h1 h2 => by omega)
        rw [show min a mid = a by omega, show max a mid = mid by omega] at this
        exact this
      · rw [pk_sub hab] at h
        exact absurd ((nI_leI (a := 2) (by omega) (by omega)).mpr (by omega)) h
end YLm
