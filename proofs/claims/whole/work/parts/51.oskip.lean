/-! ===== orders: brackets passed ===== -/
section YSk
variable {l : Launch} {E : zx_E} {d : Nat} {I : Nat → Nat → Int32} {L : Nat → Nat → Int64} {Y : zx_Y} {Qo : Option Value → zx_M → Prop} {Q : Int32 → zx_M → Prop} {Qv : zx_M → Prop} {T : Nat → Nat} {to i o : Nat}
theorem zy_u2_u2 {f : Nat → Nat → Int32} {a k : Nat} {v w : Int32} : zx_u2 (zx_u2 f a k v) a k w = zx_u2 f a k w := by
  funext x y
  unfold zx_u2
  split <;> rfl
def zo_sk (l : Launch) (E : zx_E) (d : Nat) (I : Nat → Nat → Int32) (L : Nat → Nat → Int64) (Y : zx_Y) (Qo : Option Value → zx_M → Prop) (i o : Nat) : Prop := zx_To l E (d + 1) 203 4 [some (.ref 132), some (.int (nI o)), some (.int 1)] [] (zx_u2 I 132 15 (nI i), L, Y) Qo
theorem zo_203 (hY : zx_lay Y) (hi : i < 80) {s o' : Nat} (h : I 140 i = nI s) (hs : s < 256) (ho : o ≤ 200) (e : o' = if s = 40 then o + 1 else if s = 41 then o - 1 else o) (hp : s = 41 → 1 ≤ o)
    (hq : if o' = 0 then Qo none (zx_u2 I 132 15 (nI (i + 1)), L, Y) else zo_sk l E d I L Y Qo (i + 1) o') : zo_sk l E d I L Y Qo i o := by
  have e15 : zx_u2 I 132 15 (nI i) 132 15 = nI i := zy_u2_self
  have e140 : zx_u2 I 132 15 (nI i) 140 i = nI s := by rw [zy_u2_na (by omega)]; exact h
  have s40 : nI s = 40 ↔ s = 40 := nI_eq (b := 40) (by omega) (by omega)
  have s41 : nI s = 41 ↔ s = 41 := nI_eq (b := 41) (by omega) (by omega)
  have hv := vp_in_nI (n := i) (N := 80) hi (by omega)
  have fin : ∀ x : Int32, x = nI o' → ((x ≤ 0 → zx_To l E (d + 1) 203 4 [some (.ref 132), some (.int x), some (.int 0)] [] (zx_u2 (zx_u2 I 132 15 (nI i)) 132 15 (nI i + 1), L, Y) Qo) ∧ (¬ x ≤ 0 → zx_To l E (d + 1) 203 4 [some (.ref 132), some (.int x), some (.int 1)] [] (zx_u2 (zx_u2 I 132 15 (nI i)) 132 15 (nI i + 1), L, Y) Qo)) := fun x hx => by
    have ho' : o' < 2 ^ 31 := by rw [e]; split; omega; split <;> omega
    rw [hx, zy_u2_u2, nI_1, zy_le0 ho']
    refine ⟨fun h0 => ?_, fun h0 => ?_⟩
    · rw [if_pos h0] at hq
      exact sg_203_4 hY _ _ ⟨fun _ => hq, fun h => absurd rfl h⟩
    · rw [if_neg h0] at hq
      exact hq
  unfold zo_sk
  refine sg_203_4 hY _ _ ⟨fun h => absurd h (by decide), fun _ => ?_⟩
  rw [e15, nI_clamp (by omega), e140, s40]
  refine ⟨hv, fun h40 => zy_169b (b := false) hY ⟨hY, ?_⟩, fun h40 => zy_169b (b := true) hY ⟨hY, ?_⟩⟩
  · dsimp only
    rw [e15, nI_clamp (by omega), e140, s41]
    refine ⟨hv, fun h41 => zy_169b (b := false) hY ⟨hY, ?_⟩, fun h41 => zy_169b (b := true) hY ⟨hY, ?_⟩⟩
    · dsimp only
      rw [e15]
      refine fin _ ?_
      rw [e, if_neg h40, if_neg h41]
      show nI o + (nI 0 - nI 0) = nI o
      rw [nI_0, show (0 : Int32) - 0 = 0 by decide, Int32.add_zero]
    · dsimp only
      rw [e15]
      refine fin _ ?_
      rw [e, if_neg h40, if_pos h41]
      have := hp h41
      obtain ⟨m, rfl⟩ : ∃ m, o = m + 1 := ⟨o - 1, by omega⟩
      show nI (m + 1) + (nI 0 - nI 1) = nI (m + 1 - 1)
      rw [show nI 0 - nI 1 = -1 by decide, zy_m1]; rfl
  · dsimp only
    rw [e15, nI_clamp (by omega), e140, s41]
    refine ⟨hv, fun h41 => zy_169b (b := false) hY ⟨hY, ?_⟩, fun h41 => by omega⟩
    dsimp only
    rw [e15]
    refine fin _ ?_
    rw [e, if_pos h40]
    show nI o + (nI 1 - nI 0) = nI (o + 1)
    rw [show nI 1 - nI 0 = 1 by decide, nI_1]
theorem zo_sk_one (hY : zx_lay Y) (ht : to ≤ 80) (hT : ∀ j, j < to → T j < 256) (hM : ∀ j, j < to → I 140 j = nI (T j)) (hi : i < to) (ho : 1 ≤ o ∧ o ≤ 200) (h1 : T i ≠ 40) (h2 : T i ≠ 41) (hq : zo_sk l E d I L Y Qo (i + 1) o) : zo_sk l E d I L Y Qo i o :=
  zo_203 hY (by omega) (o' := o) (hM i hi) (hT i hi) ho.2 (by rw [if_neg h1, if_neg h2]) (fun h => absurd h h2) (by rw [if_neg (by omega)]; exact hq)
theorem zo_sk_run (hY : zx_lay Y) (ht : to ≤ 80) (hT : ∀ j, j < to → T j < 256) (hM : ∀ j, j < to → I 140 j = nI (T j)) (ho : 1 ≤ o ∧ o ≤ 200) : ∀ (f i c : Nat), zo_sk l E d I L Y Qo (zt_run T to f i c).2 o → zo_sk l E d I L Y Qo i o
  | 0, i, c, hq => hq
  | f + 1, i, c, hq => by
    rw [zt_run] at hq
    by_cases h : zt_let (zt_s T to i) = true
    · rw [if_pos h] at hq
      obtain ⟨g1, g2, g3⟩ := zt_let_lt h
      exact zo_sk_one hY ht hT hM g1 ho (by omega) (by omega) (zo_sk_run hY ht hT hM ho f (i + 1) _ hq)
    · rw [if_neg h] at hq
      exact hq
theorem zo_sk_gr (hY : zx_lay Y) (ht : to ≤ 80) (hT : ∀ j, j < to → T j < 256) (hM : ∀ j, j < to → I 140 j = nI (T j)) {g j : Nat} {rb : Nat → Bool × Nat × zo_P} {h : zo_P → zo_P → zo_P} (ho : 1 ≤ o ∧ o + 1 ≤ 200) (hrb : g ≠ 0 → ∀ i, (rb i).1 = true → zo_sk l E d I L Y Qo (rb i).2.1 (o + 1) → zo_sk l E d I L Y Qo i (o + 1))
    (hok : (zo_gr T to g rb j h).1 = true) (hq : zo_sk l E d I L Y Qo (zo_gr T to g rb j h).2.1 o) : zo_sk l E d I L Y Qo j o := by
  unfold zo_gr at hok hq
  split at hok
  · cases hok
  · rename_i hg
    rw [if_neg hg] at hq
    split at hok
    · rename_i h40
      rw [if_pos h40] at hq
      obtain ⟨a1, a2⟩ := zt_s_lt h40 (by omega)
      split at hok
      · rename_i hb
        rw [if_pos hb] at hq
        split at hok
        · rename_i h41
          rw [if_pos h41] at hq
          obtain ⟨b1, b2⟩ := zt_s_lt h41 (by omega)
          refine zo_203 hY (by omega) (o' := o + 1) (hM j a1) (hT j a1) (by omega) (by rw [if_pos a2]) (fun q => by omega) ?_
          rw [if_neg (by omega)]
          refine hrb hg (j + 1) hb ?_
          refine zo_203 hY (by omega) (o' := o) (hM _ b1) (hT _ b1) (by omega) (by rw [if_neg (by omega), if_pos b2]; rfl) (fun q => by omega) ?_
          rw [if_neg (by omega)]
          exact hq
        · cases hok
      · cases hok
    · cases hok
theorem zo_sk_st (hY : zx_lay Y) (ht : to ≤ 80) (hT : ∀ j, j < to → T j < 256) (hM : ∀ j, j < to → I 140 j = nI (T j)) {g : Nat} {rb : Nat → Bool × Nat × zo_P} (ho : 1 ≤ o ∧ o + 1 ≤ 200) (hrb : g ≠ 0 → ∀ i, (rb i).1 = true → zo_sk l E d I L Y Qo (rb i).2.1 (o + 1) → zo_sk l E d I L Y Qo i (o + 1))
    (hok : (zo_st T to g rb i).1 = true) (hq : zo_sk l E d I L Y Qo (zo_st T to g rb i).2.1 o) : zo_sk l E d I L Y Qo i o := by
  have ho2 : 1 ≤ o ∧ o ≤ 200 := by omega
  unfold zo_st at hok hq
  split at hok
  · rename_i hd
    rw [if_pos hd] at hq
    obtain ⟨a1, a2, a3⟩ := zt_dig_lt hd
    exact zo_sk_one hY ht hT hM a1 ho2 (by omega) (by omega) (zo_sk_gr hY ht hT hM ho hrb hok hq)
  · rename_i hd
    rw [if_neg hd] at hq
    split at hok
    · rename_i h126
      rw [if_pos h126] at hq
      obtain ⟨a1, a2⟩ := zt_s_lt h126 (by omega)
      refine zo_sk_one hY ht hT hM a1 ho2 (by omega) (by omega) (zo_sk_run hY ht hT hM ho2 8 (i + 1) 0 ?_)
      split at hok
      · cases hok
      · rename_i h0
        rw [if_neg h0] at hq
        exact zo_sk_gr hY ht hT hM ho hrb hok hq
    · rename_i h126
      rw [if_neg h126] at hq
      refine zo_sk_run hY ht hT hM ho2 8 i 0 ?_
      split at hok
      · rename_i h42
        rw [if_pos h42] at hq
        obtain ⟨a1, a2⟩ := zt_s_lt h42 (by omega)
        exact zo_sk_one hY ht hT hM a1 ho2 (by omega) (by omega) hq
      · rename_i h42
        rw [if_neg h42] at hq
        split at hok
        · cases hok
        · rename_i h0
          rw [if_neg h0] at hq
          exact hq
theorem zo_sk_ps (hY : zx_lay Y) (ht : to ≤ 80) (hT : ∀ j, j < to → T j < 256) (hM : ∀ j, j < to → I 140 j = nI (T j)) : ∀ (f g i o : Nat), 1 ≤ o → o + g + 1 ≤ 200 → (zo_ps T to f g i).1 = true → zo_sk l E d I L Y Qo (zo_ps T to f g i).2.1 o → zo_sk l E d I L Y Qo i o
  | 0, _, _, _, _, _, hok, _ => by cases hok
  | f + 1, g, i, o, h1, h2, hok, hq => by
    rw [zo_ps] at hok hq
    split at hok
    · rename_i hs
      rw [if_pos hs] at hq
      refine zo_sk_st hY ht hT hM ⟨h1, by omega⟩ (fun hg i h k => zo_sk_ps hY ht hT hM f (g - 1) i (o + 1) (by omega) (by omega) h k) hs ?_
      split at hok
      · rename_i h59
        rw [if_pos h59] at hq
        obtain ⟨a1, a2⟩ := zt_s_lt h59 (by omega)
        exact zo_sk_one hY ht hT hM a1 ⟨h1, by omega⟩ (by omega) (by omega) (zo_sk_ps hY ht hT hM f g _ o h1 h2 hok hq)
      · rename_i h59
        rw [if_neg h59] at hq
        exact hq
    · cases hok
/-- a block is passed: from its ( to behind its ) -/
theorem zo_pass (hY : zx_lay Y) (ht : to ≤ 80) (hT : ∀ j, j < to → T j < 256) (hM : ∀ j, j < to → I 140 j = nI (T j)) {f g fr : Nat} (hg : g ≤ 4) (h40 : zt_s T to fr = 40) (hok : (zo_ps T to f g (fr + 1)).1 = true) (h41 : zt_s T to (zo_ps T to f g (fr + 1)).2.1 = 41)
    (hq : Qv (zx_u2 I 132 15 (nI ((zo_ps T to f g (fr + 1)).2.1 + 1)), L, Y)) : zx_Cv l E (d + 1) 203 [.ref 132] (zx_u2 I 132 15 (nI fr), L, Y) Qv := by
  obtain ⟨a1, a2⟩ := zt_s_lt h40 (by omega)
  obtain ⟨b1, b2⟩ := zt_s_lt h41 (by omega)
  refine sg_203_0 hY ?_
  have key : zo_sk l E d I L Y (fun r M' => r = none ∧ Qv M') fr 0 := by
    refine zo_203 hY (by omega) (o' := 1) (hM fr a1) (hT fr a1) (by omega) (by rw [if_pos a2]) (fun q => by omega) ?_
    rw [if_neg (by omega)]
    refine zo_sk_ps hY ht hT hM f g (fr + 1) 1 (by omega) (by omega) hok ?_
    refine zo_203 hY (by omega) (o' := 0) (hM _ b1) (hT _ b1) (by omega) (by rw [if_neg (by omega), if_pos b2]) (fun q => by omega) ?_
    rw [if_pos rfl]
    exact ⟨rfl, hq⟩
  exact key
theorem zy_204n (hY : zx_lay Y) (ht : to ≤ 80) (hT : ∀ j, j < to → T j < 256) (hi : i ≤ to) (hM : zt_M I T to i) (h1 : zt_dig (zt_s T to i) = false) (h2 : zt_s T to i ≠ 126)
    (hq : if zt_s T to (zt_run T to 8 i 0).2 = 42 then zx_Cv l E (d + 2) 202 [.ref 132, .int (nI (zt_run T to 8 i 0).1)] (zx_u2 I 132 15 (nI ((zt_run T to 8 i 0).2 + 1)), L, Y) (fun M' => zx_lay M'.2.2 ∧ Qv M') else zx_Cv l E (d + 2) 201 [.ref 132, .int (nI (zt_run T to 8 i 0).1)] (zx_u2 I 132 15 (nI (zt_run T to 8 i 0).2), L, Y) (fun M' => zx_lay M'.2.2 ∧ Qv M')) : zx_Cv l E (d + 3) 204 [.ref 132] (I, L, Y) Qv := by
  obtain ⟨r1, r2, r3, r4, r5, r6, r7⟩ := zt_run_ok (T := T) (to := to) 8 i 0 hi zy_dig_0 (by decide) (Nat.le_refl _)
  refine sg_204_0 hY (zy_182 hY hT ht hi hM ?_)
  rw [h1]
  refine ⟨hY, fun _ => zy_179 hY hT ht hi hM (s := 126) (by omega) ?_, fun h => absurd rfl h⟩
  rw [if_neg h2]
  refine ⟨hY, fun _ => zy_181 hY hT ht hi hM ⟨hY, ?_⟩, fun h => absurd rfl h⟩
  refine zy_179 (I := zx_u2 I 132 15 (nI (zt_run T to 8 i 0).2)) hY hT ht r3 (zt_M_at hM) (s := 42) (by omega) ?_
  split
  · rename_i h42
    rw [if_pos h42] at hq
    rw [zy_u2_u2]
    exact ⟨hY, fun h => absurd h (by decide), fun _ => zx_Cv.mono hq (fun M' g => ⟨g.1, rfl, g.2⟩)⟩
  · rename_i h42
    rw [if_neg h42] at hq
    exact ⟨hY, fun _ => zx_Cv.mono hq (fun M' g => ⟨g.1, rfl, g.2⟩), fun h => absurd rfl h⟩
theorem zy_204d (hY : zx_lay Y) (ht : to ≤ 80) (hT : ∀ j, j < to → T j < 256) (hi : i ≤ to) (hM : zt_M I T to i) (h1 : zt_dig (zt_s T to i) = true)
    (hq : zx_To l E (d + 2) 204 29 [some (.ref 132), some (.int (nI (T i - 48))), some (.int (nI (i + 1))), some (.int 0)] [] (I, L, Y) (fun r M' => r = none ∧ Qv M')) : zx_Cv l E (d + 2) 204 [.ref 132] (I, L, Y) Qv := by
  obtain ⟨a1, a2, a3⟩ := zt_dig_lt h1
  refine sg_204_0 hY (zy_182 hY hT ht hi hM ?_)
  rw [h1]
  refine ⟨hY, fun h => absurd h (by decide), fun _ => ?_⟩
  dsimp only
  rw [hM.1.2, nI_clamp (by omega), hM.2 i a1, nI_1]
  refine ⟨vp_in_nI (by omega) (by omega), ?_⟩
  have e : nI (T i) - 48 = nI (T i - 48) := pk_sub (a := T i) (b := 48) (by omega)
  rw [e]
  exact hq
theorem zy_204u (hY : zx_lay Y) (ht : to ≤ 80) (hT : ∀ j, j < to → T j < 256) (hi : i ≤ to) (hM : zt_M I T to i) (h2 : zt_s T to i = 126)
    (hq : zx_To l E (d + 3) 204 87 [some (.ref 132), some (.int (nI (zt_run T to 8 (i + 1) 0).1)), some (.int (nI (zt_run T to 8 (i + 1) 0).2)), none] [] (zx_u2 I 132 15 (nI (zt_run T to 8 (i + 1) 0).2), L, Y) (fun r M' => r = none ∧ Qv M')) : zx_Cv l E (d + 3) 204 [.ref 132] (I, L, Y) Qv := by
  obtain ⟨a1, a2⟩ := zt_s_lt h2 (by omega)
  refine sg_204_0 hY (zy_182 hY hT ht hi hM ?_)
  have h1 : zt_dig (zt_s T to i) = false := by rw [h2]; decide
  rw [h1]
  refine ⟨hY, fun _ => zy_179 hY hT ht hi hM (s := 126) (by omega) ?_, fun h => absurd rfl h⟩
  rw [if_pos h2]
  refine ⟨hY, fun h => absurd h (by decide), fun _ => zy_181 (I := zx_u2 I 132 15 (nI (i + 1))) hY hT ht (by omega) (zt_M_at hM) ⟨hY, ?_⟩⟩
  dsimp only
  rw [zy_u2_self, zy_u2_u2]
  exact hq
end YSk
