/-! ===== orders: steps done on both sides ===== -/
abbrev zo_Me : Type := Nat → Nat → Int32
def zo_MR (g : Nat) (J J' : zo_Me) : Prop := ∀ (l : Launch) (E : zx_E) (d : Nat) (X : zo_Me) (L : Nat → Nat → Int64) (Y : zx_Y) (Q : Option Value → zx_M → Prop), zx_lay Y → Q none (zy_mix X J', L, Y) → zx_Cv l E (d + 2 * g + 5) 204 [.ref 132] (zy_mix X J, L, Y) (fun M1 => zx_lay M1.2.2 ∧ zx_To l E (d + 2 * g + 5 + 1) 205 4 [some (.ref 132)] [] (M1.1, M1.2.1, M1.2.2) Q)
def zo_SR (g : Nat) (J J' : zo_Me) : Prop := ∀ (l : Launch) (E : zx_E) (d : Nat) (X : zo_Me) (L : Nat → Nat → Int64) (Y : zx_Y) (Q : zx_M → Prop), zx_lay Y → Q (zy_mix X J', L, Y) → zx_Cv l E (d + 2 * g + 5) 204 [.ref 132] (zy_mix X J, L, Y) Q
def zo_CR (g a n : Nat) (J J' : zo_Me) : Prop := ∀ (m : Nat) (l : Launch) (E : zx_E) (d : Nat) (X : zo_Me) (L : Nat → Nat → Int64) (Y : zx_Y) (Q : Option Value → zx_M → Prop), m ≤ a → zx_lay Y → Q none (zy_mix J' X, L, Y) → zx_To l E (d + 3 * g + 6) 66 14 [some (.ref 17), none, none, some (.int (nI (4 - g))), some (.int (nI n)), some (.int (nI a)), some (.int (nI m))] [] (zy_mix J X, L, Y) Q
def zo_TR (g a : Nat) (J J' : zo_Me) : Prop := ∀ (l : Launch) (E : zx_E) (d : Nat) (X : zo_Me) (L : Nat → Nat → Int64) (Y : zx_Y) (Q : zx_M → Prop), zx_lay Y → Q (zy_mix J' X, L, Y) → zx_Cv l E (d + 3 * g + 5) 67 [.ref 17, .int (nI a), .int (nI (4 - g))] (zy_mix J X, L, Y) Q
/-- what is done from J on, c calls made, u untils begun, from sign i to sign j of the text -/
def zo_pk (P b : Nat) (RM RC : zo_Me → zo_Me → Prop) (J : zo_Me) (c u i j : Nat) : Prop := ∃ (J' : zo_Me) (c' u' : Nat) (e' : Bool), zo_K P b J' ∧ zo_X J' c' u' e' ∧ zy_fr zw_ex J J' ∧ (c ≤ c' ∧ u ≤ u') ∧ (e' = false → J' 132 15 = nI j) ∧
  (c' + u' = c + u → e' = false → zy_fr zw_id J J' ∧ ∀ J2, zy_fr zw_id J J2 → J2 132 15 = nI i → ∃ J3, zy_fr zw_id J J3 ∧ J3 132 15 = nI j ∧ RM J2 J3) ∧ RC J J' ∧ RM J J'
/-- the text and the rows -/
def zo_F (J : zo_Me) (T : Nat → Nat) (to a : Nat) (p : zo_P) : Prop := (J 132 16 = nI to ∧ ∀ k, k < to → J 140 k = nI (T k)) ∧ zo_A J a p ∧ a + p.length ≤ 60
theorem zo_F_fr {J J' : zo_Me} {T : Nat → Nat} {to a : Nat} {p : zo_P} (ht : to ≤ 80) (h : zo_F J T to a p) (hf : zy_fr zw_ex J J') : zo_F J' T to a p := by
  obtain ⟨⟨h1, h2⟩, h3, h4⟩ := h
  refine ⟨⟨?_, fun k hk => ?_⟩, zo_A_cong h3 (fun k k1 k2 => ⟨?_, ?_, ?_⟩), h4⟩
  · rw [zy_fr_at hf 132 16 (by decide)]; exact h1
  · rw [zy_fr_row hf 140 80 (by decide) (by omega)]; exact h2 k hk
  · exact zy_fr_row hf 18 60 (by decide) (by omega)
  · exact zy_fr_row hf 19 60 (by decide) (by omega)
  · exact zy_fr_row hf 20 60 (by decide) (by omega)
theorem zo_id_ex {J J' : zo_Me} (h : zy_fr zw_id J J') : zy_fr zw_ex J J' := zy_fr_mono h (by decide)
theorem zo_id_15 {J : zo_Me} {x : Int32} : zy_fr zw_id J (zx_u2 J 132 15 x) := zy_fr_u2 (zy_fr_rf _ _) (zy_in_at 1 132 15 16 15 rfl (by omega) (by omega))
theorem zo_id_0 {J : zo_Me} {x : Int32} : zy_fr zw_id J (zx_u2 J 132 0 x) := zy_fr_u2 (zy_fr_rf _ _) (zy_in_at 0 132 0 1 0 rfl (by omega) (by omega))
theorem zo_id_mix {J J' X : zo_Me} (h : zy_fr zw_id J J') : zy_mix J' X = zy_mix J X := zy_mix_eq (fun a k ha => by
  rw [zy_mix_lo ha]
  refine h a k (fun ⟨w, hw, e1, _⟩ => ?_)
  simp only [zw_id, List.mem_cons, List.not_mem_nil, or_false] at hw
  rcases hw with rfl | rfl <;> simp at e1 <;> omega) (fun a k ha => by rw [zy_mix_hi ha])
theorem zo_id_to {J J1 J2 : zo_Me} (h1 : zy_fr zw_id J J1) (h2 : zy_fr zw_id J J2) : zy_fr zw_id J1 J2 := fun a k hk => (h2 a k hk).trans (h1 a k hk).symm
theorem zo_id_sy {J J1 : zo_Me} (h1 : zy_fr zw_id J J1) : zy_fr zw_id J1 J := fun a k hk => (h1 a k hk).symm
section YEx
variable {T : Nat → Nat} {to P b : Nat}
/-- a block that is done, or not, so often -/
theorem zs_rep (ht : to ≤ 60) (hT : ∀ j, j < to → T j < 256) {f g a w fr : Nat} (hg : g + 1 ≤ 4) (hw : w ≤ 9) (h40 : zt_s T to fr = 40) (hok : (zo_ps T to f g (fr + 1)).1 = true) (h41 : zt_s T to (zo_ps T to f g (fr + 1)).2.1 = 41)
    (blk : ∀ (J : zo_Me) (c u : Nat), zo_F J T to (a + 1) (zo_ps T to f g (fr + 1)).2.2 → J 132 15 = nI (fr + 1) → zo_K P b J → zo_X J c u false → zo_pk P b (zo_MR g) (zo_CR g (a + 1) (a + 1 + (zo_ps T to f g (fr + 1)).2.2.length)) J c u (fr + 1) (zo_ps T to f g (fr + 1)).2.1) :
    ∀ (n k : Nat) (J : zo_Me) (c u : Nat) (e : Bool), n + k = w → zo_F J T to a ((2, w, (zo_ps T to f g (fr + 1)).2.2.length) :: (zo_ps T to f g (fr + 1)).2.2) → zo_K P b J → zo_X J c u e →
    ∃ (J' : zo_Me) (c' u' : Nat) (e' : Bool), zo_K P b J' ∧ zo_X J' c' u' e' ∧ zy_fr zw_ex J J' ∧ (c ≤ c' ∧ u ≤ u') ∧ J' 132 15 = nI ((zo_ps T to f g (fr + 1)).2.1 + 1) ∧
    (k < w → c' + u' = c + u → e' = false → zy_fr zw_id J J' ∧ ∀ (m q : Nat) (J2 : zo_Me), m + q = w → zy_fr zw_id J J2 → ∃ J3, zy_fr zw_id J J3 ∧ J3 132 15 = nI ((zo_ps T to f g (fr + 1)).2.1 + 1) ∧ ∀ (l : Launch) (E : zx_E) (d : Nat) (X : zo_Me) (L : Nat → Nat → Int64) (Y : zx_Y) (Q : Option Value → zx_M → Prop), zx_lay Y → Q none (zy_mix X J3, L, Y) → zx_To l E (d + 2 * g + 7) 204 29 [some (.ref 132), some (.int (nI w)), some (.int (nI fr)), some (.int (nI q))] [] (zy_mix X J2, L, Y) Q) ∧
    (∀ (l : Launch) (E : zx_E) (d : Nat) (X : zo_Me) (L : Nat → Nat → Int64) (Y : zx_Y) (Q : Option Value → zx_M → Prop), zx_lay Y → Q none (zy_mix J' X, L, Y) → zx_To l E (d + 3 * g + 7) 72 8 [some (.ref 17), some (.int (nI a)), some (.int (nI (4 - (g + 1)))), some (.int (nI k)), none] [] (zy_mix J X, L, Y) Q) ∧
    (∀ (l : Launch) (E : zx_E) (d : Nat) (X : zo_Me) (L : Nat → Nat → Int64) (Y : zx_Y) (Q : Option Value → zx_M → Prop), zx_lay Y → Q none (zy_mix X J', L, Y) → zx_To l E (d + 2 * g + 7) 204 29 [some (.ref 132), some (.int (nI w)), some (.int (nI fr)), some (.int (nI k))] [] (zy_mix X J, L, Y) Q) := by
  generalize hbk : (zo_ps T to f g (fr + 1)).2.2 = bk at *
  generalize hjj : (zo_ps T to f g (fr + 1)).2.1 = j at *
  have ht8 : to ≤ 80 := by omega
  -- the reference leaves the loop
  have out : ∀ (J : zo_Me) (q : Nat), zo_F J T to a ((2, w, bk.length) :: bk) → (q = w ∨ ¬ J 132 25 = 0) → q ≤ w → ∀ (l : Launch) (E : zx_E) (d : Nat) (X : zo_Me) (L : Nat → Nat → Int64) (Y : zx_Y) (Q : Option Value → zx_M → Prop), zx_lay Y → Q none (zy_mix X (zx_u2 J 132 15 (nI (j + 1))), L, Y) → zx_To l E (d + 2 * g + 7) 204 29 [some (.ref 132), some (.int (nI w)), some (.int (nI fr)), some (.int (nI q))] [] (zy_mix X J, L, Y) Q := by
    intro J q hF hc hq l E d X L Y Q hY hQ
    have pas : ∀ K : zx_M → Prop, K (zx_u2 (zy_mix X J) 132 15 (nI (j + 1)), L, Y) → zx_Cv l E (d + 2 * g + 6) 203 [.ref 132] (zx_u2 (zy_mix X J) 132 15 (nI fr), L, Y) K := fun K hK => by
      refine zo_pass (I := zy_mix X J) hY ht8 hT hF.1.2 (g := g) (by omega) h40 hok (by rw [hjj]; exact h41) ?_
      rw [hjj]; exact hK
    rw [zy_mix_uhi (by omega)] at pas
    refine sg_204_29 hY _ _ _ ⟨fun _ => ?_, fun h => ⟨fun _ => ?_, fun h2 => ?_⟩⟩
    · exact pas _ ⟨hY, hQ⟩
    · exact pas _ ⟨hY, hQ⟩
    · rcases hc with hc | hc
      · rw [hc] at h; exact absurd (nI_le (Nat.le_refl _) (by omega)) h
      · exact absurd h2 hc
  -- a block that changes nothing
  have idle : ∀ (J : zo_Me), zo_F J T to a ((2, w, bk.length) :: bk) → J 132 25 = 0 → (∀ J2, zy_fr zw_id J J2 → J2 132 15 = nI (fr + 1) → ∃ J3, zy_fr zw_id J J3 ∧ J3 132 15 = nI j ∧ zo_MR g J2 J3) →
      ∀ (m q : Nat) (J2 : zo_Me), m + q = w → zy_fr zw_id J J2 → ∃ J3, zy_fr zw_id J J3 ∧ J3 132 15 = nI (j + 1) ∧ ∀ (l : Launch) (E : zx_E) (d : Nat) (X : zo_Me) (L : Nat → Nat → Int64) (Y : zx_Y) (Q : Option Value → zx_M → Prop), zx_lay Y → Q none (zy_mix X J3, L, Y) → zx_To l E (d + 2 * g + 7) 204 29 [some (.ref 132), some (.int (nI w)), some (.int (nI fr)), some (.int (nI q))] [] (zy_mix X J2, L, Y) Q := by
    intro J hF h25 hbi m
    induction m with
    | zero =>
      intro q J2 hq hJ2
      exact ⟨zx_u2 J2 132 15 (nI (j + 1)), zy_fr_tr hJ2 zo_id_15, zy_u2_self, fun l E d X L Y Q hY hQ => out J2 q (zo_F_fr ht8 hF (zo_id_ex hJ2)) (Or.inl (by omega)) (by omega) l E d X L Y Q hY hQ⟩
    | succ m ih =>
      intro q J2 hq hJ2
      obtain ⟨J3, a1, a2, a3⟩ := hbi (zx_u2 J2 132 15 (nI (fr + 1))) (zy_fr_tr hJ2 zo_id_15) zy_u2_self
      obtain ⟨J4, b1, b2, b3⟩ := ih (q + 1) J3 (by omega) a1
      refine ⟨J4, b1, b2, fun l E d X L Y Q hY hQ => ?_⟩
      have e25 : zy_mix X J2 132 25 = 0 := by show J2 132 25 = 0; rw [zy_fr_at hJ2 132 25 (by decide)]; exact h25
      refine sg_204_29 hY _ _ _ ⟨fun h => absurd ((nI_leI (by omega) (by omega)).mp h) (by omega), fun _ => ⟨fun h => absurd e25 h, fun _ => ?_⟩⟩
      rw [nI_1, nI_1, zy_mix_uhi (by omega)]
      exact sg_205_0 hY (a3 l E d X L Y _ hY ⟨rfl, hY, b3 l E d X L Y Q hY hQ⟩)
  intro n
  induction n with
  | zero =>
    intro k J c u e hk hF hK hX
    refine ⟨zx_u2 J 132 15 (nI (j + 1)), c, u, e, zo_K_fr hK (zo_id_15 (x := nI (j + 1))) (by decide), zo_X_fr hX (zo_id_15 (x := nI (j + 1))) (by decide), zo_id_ex zo_id_15, ⟨Nat.le_refl _, Nat.le_refl _⟩, zy_u2_self, fun h => by omega, fun l E d X L Y Q hY hq => ?_, fun l E d X L Y Q hY hq => out J k hF (Or.inl (by omega)) (by omega) l E d X L Y Q hY hq⟩
    have e19 : zy_mix J X 19 a = nI w := (zo_A_cons.mp hF.2.1).1.2.1
    have ha : a < 60 := by have := hF.2.2; rw [List.length_cons] at this; omega
    rw [zo_id_mix zo_id_15] at hq
    refine sg_72_8 hY _ _ _ ⟨vp_in_nI ha (by omega), fun _ => hq, fun h => ?_⟩
    rw [nI_clamp (by omega), e19] at h
    exact absurd (nI_le (by omega) (by omega)) h
  | succ n ih =>
    intro k J c u e hk hF hK hX
    have ha : a + 1 + bk.length ≤ 60 := by have := hF.2.2; rw [List.length_cons] at this; omega
    obtain ⟨⟨r18, r19, r20⟩, rA⟩ := zo_A_cons.mp hF.2.1
    have r20 : J 20 a = nI (a + 1 + bk.length) := r20
    have r19 : J 19 a = nI w := r19
    have hv := vp_in_nI (n := a) (N := 60) (by omega) (by omega)
    have nle : ¬ nI w ≤ nI k := fun h => by have := (nI_leI (by omega) (by omega)).mp h; omega
    cases e with
    | true =>
      have w1 : J 17 11 = 1 := hX.2.2.2.1
      have w2 : J 132 25 = 1 := hX.2.2.2.2
      refine ⟨zx_u2 J 132 15 (nI (j + 1)), c, u, true, zo_K_fr hK (zo_id_15 (x := nI (j + 1))) (by decide), zo_X_fr hX (zo_id_15 (x := nI (j + 1))) (by decide), zo_id_ex zo_id_15, ⟨Nat.le_refl _, Nat.le_refl _⟩, zy_u2_self, fun _ _ h => (by cases h), fun l E d X L Y Q hY hq => ?_, fun l E d X L Y Q hY hq => out J k hF (Or.inr (by rw [w2]; decide)) (by omega) l E d X L Y Q hY hq⟩
      rw [zo_id_mix zo_id_15] at hq
      refine sg_72_8 hY _ _ _ ⟨hv, fun _ => hq, fun _ => ⟨fun _ => hq, fun h => ?_⟩⟩
      have h : J 17 11 = 0 := h
      rw [w1] at h; exact absurd h (by decide)
    | false =>
      have w1 : J 17 11 = 0 := hX.2.2.2.1
      have w2 : J 132 25 = 0 := hX.2.2.2.2
      have hFb : zo_F (zx_u2 J 132 15 (nI (fr + 1))) T to (a + 1) bk := by
        have := zo_F_fr ht8 hF (zo_id_ex (zo_id_15 (x := nI (fr + 1))))
        exact ⟨this.1, (zo_A_cons.mp this.2.1).2, ha⟩
      obtain ⟨J1, c1, u1, e1, hK1, hX1, fr1, le1, p1, id1, rC, rM⟩ := blk (zx_u2 J 132 15 (nI (fr + 1))) c u hFb zy_u2_self (zo_K_fr hK (zo_id_15 (x := nI (fr + 1))) (by decide)) (zo_X_fr hX (zo_id_15 (x := nI (fr + 1))) (by decide))
      have frJ : zy_fr zw_ex J J1 := zy_fr_tr (zo_id_ex zo_id_15) fr1
      have hF1 := zo_F_fr ht8 hF frJ
      -- what the class asks behind the block
      have cls : ∀ (l : Launch) (E : zx_E) (d : Nat) (X : zo_Me) (L : Nat → Nat → Int64) (Y : zx_Y) (Q : Option Value → zx_M → Prop), zx_lay Y →
          (¬ c1 + u1 = c + u → zx_To l E (d + 3 * g + 7) 72 8 [some (.ref 17), some (.int (nI a)), some (.int (nI (4 - (g + 1)))), some (.int (nI (k + 1))), none] [] (zy_mix J1 X, L, Y) Q) → (c1 + u1 = c + u → Q none (zy_mix J1 X, L, Y)) →
          zx_To l E (d + 3 * g + 7) 72 8 [some (.ref 17), some (.int (nI a)), some (.int (nI (4 - (g + 1)))), some (.int (nI k)), none] [] (zy_mix J X, L, Y) Q := by
        intro l E d X L Y Q hY h1 h2
        refine sg_72_8 hY _ _ _ ⟨hv, fun h => ?_, fun _ => ⟨fun h => absurd w1 h, fun _ => ⟨hv, ?_⟩⟩⟩
        · rw [nI_clamp (by omega)] at h
          have h : J 19 a ≤ nI k := h
          rw [r19] at h; exact absurd h nle
        · rw [nI_clamp (by omega), nI_1, nI_1]
          show zx_Cv l E (d + 3 * g + 6) 66 [.ref 17, .int (nI (a + 1)), .int (J 20 a), .int (nI (4 - (g + 1) + 1))] (zy_mix J X, L, Y) _
          rw [r20, show 4 - (g + 1) + 1 = 4 - g by omega]
          refine sg_66_0 hY _ _ _ ?_
          rw [if_neg (fun h => by have := (nI_ltI (a := 60) (by omega) (by omega)).mp h; omega)]
          have e0 : zy_mix J X = zy_mix (zx_u2 J 132 15 (nI (fr + 1))) X := (zo_id_mix zo_id_15).symm
          rw [e0]
          refine rC 0 l E d X L Y _ (Nat.zero_le _) hY ⟨rfl, hY, ?_⟩
          have g1 : zy_mix J1 X 17 7 + zy_mix J1 X 17 10 = nI (c1 + u1) := by
            show J1 17 7 + J1 17 10 = _
            rw [hX1.1.2.1, hX1.2.1.2.1, nI_add]
          have g2 : zy_mix (zx_u2 J 132 15 (nI (fr + 1))) X 17 7 + zy_mix (zx_u2 J 132 15 (nI (fr + 1))) X 17 10 = nI (c + u) := by
            show J 17 7 + J 17 10 = _
            rw [hX.1.2.1, hX.2.1.2.1, nI_add]
          have b1 := hX1.1.1
          have b2 := hX1.2.1.1
          have b3 := hX.1.1
          have b4 := hX.2.1.1
          dsimp only
          rw [g1, g2, nI_eq (by omega) (by omega), nI_1]
          exact ⟨h1, h2⟩
      have mdl : ∀ (l : Launch) (E : zx_E) (d : Nat) (X : zo_Me) (L : Nat → Nat → Int64) (Y : zx_Y) (Q : Option Value → zx_M → Prop), zx_lay Y →
          zx_To l E (d + 2 * g + 7) 204 29 [some (.ref 132), some (.int (nI w)), some (.int (nI fr)), some (.int (nI (k + 1)))] [] (zy_mix X J1, L, Y) Q →
          zx_To l E (d + 2 * g + 7) 204 29 [some (.ref 132), some (.int (nI w)), some (.int (nI fr)), some (.int (nI k))] [] (zy_mix X J, L, Y) Q := by
        intro l E d X L Y Q hY h1
        refine sg_204_29 hY _ _ _ ⟨fun h => absurd h nle, fun _ => ⟨fun h => absurd w2 h, fun _ => ?_⟩⟩
        rw [nI_1, nI_1, zy_mix_uhi (by omega)]
        exact sg_205_0 hY (rM l E d X L Y _ hY ⟨rfl, hY, h1⟩)
      by_cases hsame : c1 + u1 = c + u
      · cases e1 with
        | true =>
          have v2 : J1 132 25 = 1 := hX1.2.2.2.2
          refine ⟨zx_u2 J1 132 15 (nI (j + 1)), c1, u1, true, zo_K_fr hK1 (zo_id_15 (x := nI (j + 1))) (by decide), zo_X_fr hX1 (zo_id_15 (x := nI (j + 1))) (by decide), zy_fr_tr frJ (zo_id_ex zo_id_15), le1, zy_u2_self, fun _ _ h => (by cases h), fun l E d X L Y Q hY hq => ?_, fun l E d X L Y Q hY hq => ?_⟩
          · rw [zo_id_mix zo_id_15] at hq
            exact cls l E d X L Y Q hY (fun h => absurd hsame h) (fun _ => hq)
          · exact mdl l E d X L Y Q hY (out J1 (k + 1) hF1 (Or.inr (by rw [v2]; decide)) (by omega) l E d X L Y Q hY hq)
        | false =>
          obtain ⟨i1, i2⟩ := id1 hsame rfl
          have J1id : zy_fr zw_id J J1 := zy_fr_tr zo_id_15 i1
          have bi : ∀ J2, zy_fr zw_id J J2 → J2 132 15 = nI (fr + 1) → ∃ J3, zy_fr zw_id J J3 ∧ J3 132 15 = nI j ∧ zo_MR g J2 J3 := fun J2 h h15 => by
            obtain ⟨J3, a1, a2, a3⟩ := i2 J2 (zo_id_to zo_id_15 h) h15
            exact ⟨J3, zy_fr_tr zo_id_15 a1, a2, a3⟩
          obtain ⟨J', a1, a2, a3⟩ := idle J hF w2 bi n (k + 1) J1 (by omega) J1id
          refine ⟨J', c1, u1, false, zo_K_fr hK a1 (by decide), ?_, zo_id_ex a1, le1, a2, fun _ _ _ => ⟨a1, fun m q J2 hmq hJ2 => idle J hF w2 bi m q J2 hmq hJ2⟩, fun l E d X L Y Q hY hq => ?_, fun l E d X L Y Q hY hq => ?_⟩
          · exact zo_X_fr hX1 (zo_id_to J1id a1) (by decide)
          · rw [zo_id_mix (zo_id_to J1id a1)] at hq
            exact cls l E d X L Y Q hY (fun h => absurd hsame h) (fun _ => hq)
          · exact mdl l E d X L Y Q hY (a3 l E d X L Y Q hY hq)
      · obtain ⟨J', c', u', e', hK', hX', fr', le', p', -, sC, sM⟩ := ih (k + 1) J1 c1 u1 e1 (by omega) hF1 hK1 hX1
        refine ⟨J', c', u', e', hK', hX', zy_fr_tr frJ fr', ⟨by omega, by omega⟩, p', fun _ h => by omega, fun l E d X L Y Q hY hq => ?_, fun l E d X L Y Q hY hq => ?_⟩
        · exact cls l E d X L Y Q hY (fun _ => sC l E d X L Y Q hY hq) (fun h => absurd h hsame)
        · exact mdl l E d X L Y Q hY (sM l E d X L Y Q hY hq)
/-- a block that is done as long as somebody has a name -/
theorem zs_unt (ht : to ≤ 60) (hT : ∀ j, j < to → T j < 256) {f g a w fr : Nat} (hg : g + 1 ≤ 4) (hw : w < 5764801) (hw0 : w ≠ 0) (h40 : zt_s T to fr = 40) (hok : (zo_ps T to f g (fr + 1)).1 = true) (h41 : zt_s T to (zo_ps T to f g (fr + 1)).2.1 = 41)
    (blk : ∀ (J : zo_Me) (c u : Nat), zo_F J T to (a + 1) (zo_ps T to f g (fr + 1)).2.2 → J 132 15 = nI (fr + 1) → zo_K P b J → zo_X J c u false → zo_pk P b (zo_MR g) (zo_CR g (a + 1) (a + 1 + (zo_ps T to f g (fr + 1)).2.2.length)) J c u (fr + 1) (zo_ps T to f g (fr + 1)).2.1) :
    ∀ (n k : Nat) (J : zo_Me) (c u : Nat) (e : Bool), n + u = 301 → k ≤ u → zo_F J T to a ((3, w, (zo_ps T to f g (fr + 1)).2.2.length) :: (zo_ps T to f g (fr + 1)).2.2) → zo_K P b J → zo_X J c u e →
    ∃ (J' : zo_Me) (c' u' : Nat) (e' : Bool), zo_K P b J' ∧ zo_X J' c' u' e' ∧ zy_fr zw_ex J J' ∧ (c ≤ c' ∧ u ≤ u') ∧ J' 132 15 = nI ((zo_ps T to f g (fr + 1)).2.1 + 1) ∧
    (c' + u' = c + u → e' = false → zy_fr zw_id J J' ∧ ∀ (J2 : zo_Me), zy_fr zw_id J J2 → ∃ J3, zy_fr zw_id J J3 ∧ J3 132 15 = nI ((zo_ps T to f g (fr + 1)).2.1 + 1) ∧ ∀ (l : Launch) (E : zx_E) (d : Nat) (X : zo_Me) (L : Nat → Nat → Int64) (Y : zx_Y) (Q : Option Value → zx_M → Prop), zx_lay Y → Q none (zy_mix X J3, L, Y) → zx_To l E (d + 2 * g + 7) 204 87 [some (.ref 132), some (.int (nI w)), some (.int (nI fr)), none] [] (zy_mix X J2, L, Y) Q) ∧
    (∀ (l : Launch) (E : zx_E) (d : Nat) (X : zo_Me) (L : Nat → Nat → Int64) (Y : zx_Y) (Q : Option Value → zx_M → Prop), zx_lay Y → Q none (zy_mix J' X, L, Y) → zx_To l E (d + 3 * g + 7) 73 8 [some (.ref 17), some (.int (nI a)), some (.int (nI (4 - (g + 1)))), some (.int (nI k))] [] (zy_mix J X, L, Y) Q) ∧
    (∀ (l : Launch) (E : zx_E) (d : Nat) (X : zo_Me) (L : Nat → Nat → Int64) (Y : zx_Y) (Q : Option Value → zx_M → Prop), zx_lay Y → Q none (zy_mix X J', L, Y) → zx_To l E (d + 2 * g + 7) 204 87 [some (.ref 132), some (.int (nI w)), some (.int (nI fr)), none] [] (zy_mix X J, L, Y) Q) := by
  generalize hbk : (zo_ps T to f g (fr + 1)).2.2 = bk at *
  generalize hjj : (zo_ps T to f g (fr + 1)).2.1 = j at *
  have ht8 : to ≤ 80 := by omega
  have pas : ∀ (J : zo_Me), zo_F J T to a ((3, w, bk.length) :: bk) → ∀ (l : Launch) (E : zx_E) (d : Nat) (X : zo_Me) (L : Nat → Nat → Int64) (Y : zx_Y) (K : zx_M → Prop), zx_lay Y → K (zy_mix X (zx_u2 J 132 15 (nI (j + 1))), L, Y) → zx_Cv l E (d + 2 * g + 6) 203 [.ref 132] (zx_u2 (zy_mix X J) 132 15 (nI fr), L, Y) K := fun J hF l E d X L Y K hY hK => by
    refine zo_pass (I := zy_mix X J) hY ht8 hT hF.1.2 (g := g) (by omega) h40 hok (by rw [hjj]; exact h41) ?_
    rw [hjj, zy_mix_uhi (by omega)]; exact hK
  -- who has the name, on both sides
  have who : ∀ (J : zo_Me), zo_K P b J → ∃ c0 : Nat, c0 < 1024 ∧ (∀ X, zy_or (fun p => decide (zy_mix J X 9 p = nI w)) 10 = nI c0) ∧ (∀ X, zy_or (fun p => decide (zy_mix X J 134 p = nI w)) P = nI c0) ∧ ∀ J2, zy_fr zw_id J J2 → ∀ X, zy_or (fun p => decide (zy_mix X J2 134 p = nI w)) P = nI c0 := fun J hK => by
    obtain ⟨S, r, H, hC⟩ := hK
    have hP := hC.1.1
    have e := zc_who hC (x := nI w) (fun q => hw0 ((zy_eq0 (by omega)).mp q))
    refine ⟨zy_orN (fun p => decide (J 9 p = nI w)) 10, zy_orN_lt _ 10, fun X => ?_, fun X => ?_, fun J2 h2 X => ?_⟩
    · rw [zy_or_nI _ 10 (by omega)]; rfl
    · rw [zy_or_nI _ P (by omega), ← e]; rfl
    · rw [zy_or_nI _ P (by omega), ← e]
      congr 1
      refine zy_orN_cong (fun p hp => ?_)
      show decide (J2 134 p = nI w) = _
      rw [zy_fr_row h2 134 10 (by decide) (by omega)]
  intro n
  induction n using Nat.strongRecOn with
  | ind n ih =>
    intro k J c u e hn hku hF hK hX
    have hu := hX.2.1.1
    have hc3 := hX.1.1
    have ha : a + 1 + bk.length ≤ 60 := by have := hF.2.2; rw [List.length_cons] at this; omega
    obtain ⟨⟨r18, r19, r20⟩, rA⟩ := zo_A_cons.mp hF.2.1
    have r20 : J 20 a = nI (a + 1 + bk.length) := r20
    have r19 : J 19 a = nI w := r19
    have hv := vp_in_nI (n := a) (N := 60) (by omega) (by omega)
    have n300 : ¬ (300 : Int32) < nI k := fun h => by have := (nI_ltI (a := 300) (by omega) (by omega)).mp h; omega
    have hP := (zo_nm_ok hK).1
    have h3 := (zo_nm_ok hK).2.1
    have base15 : ∀ e, zo_X J c u e → zo_K P b (zx_u2 J 132 15 (nI (j + 1))) ∧ zo_X (zx_u2 J 132 15 (nI (j + 1))) c u e := fun e hX => ⟨zo_K_fr hK (zo_id_15 (x := nI (j + 1))) (by decide), zo_X_fr hX (zo_id_15 (x := nI (j + 1))) (by decide)⟩
    cases e with
    | true =>
      have w1 : J 17 11 = 1 := hX.2.2.2.1
      have w2 : J 132 25 = 1 := hX.2.2.2.2
      refine ⟨zx_u2 J 132 15 (nI (j + 1)), c, u, true, (base15 true hX).1, (base15 true hX).2, zo_id_ex zo_id_15, ⟨Nat.le_refl _, Nat.le_refl _⟩, zy_u2_self, fun _ h => (by cases h), fun l E d X L Y Q hY hq => ?_, fun l E d X L Y Q hY hq => ?_⟩
      · rw [zo_id_mix zo_id_15] at hq
        refine sg_73_8 hY _ _ _ ⟨fun _ => hq, fun _ => ⟨fun _ => hq, fun h => ?_⟩⟩
        have h : J 17 11 = 0 := h
        rw [w1] at h; exact absurd h (by decide)
      · refine sg_204_87 hY _ _ ⟨fun _ => pas J hF l E d X L Y _ hY ⟨hY, hq⟩, fun h => ?_⟩
        have h : J 132 25 = 0 := h
        rw [w2] at h; exact absurd h (by decide)
    | false =>
      have w1 : J 17 11 = 0 := hX.2.2.2.1
      have w2 : J 132 25 = 0 := hX.2.2.2.2
      obtain ⟨c0, hc0, wC, wM, wI⟩ := who J hK
      -- nobody has it
      by_cases h0 : c0 = 0
      · have leave : ∀ J2, zy_fr zw_id J J2 → ∀ (l : Launch) (E : zx_E) (d : Nat) (X : zo_Me) (L : Nat → Nat → Int64) (Y : zx_Y) (Q : Option Value → zx_M → Prop), zx_lay Y → Q none (zy_mix X (zx_u2 J2 132 15 (nI (j + 1))), L, Y) → zx_To l E (d + 2 * g + 7) 204 87 [some (.ref 132), some (.int (nI w)), some (.int (nI fr)), none] [] (zy_mix X J2, L, Y) Q := fun J2 h2 l E d X L Y Q hY hq => by
          have hF2 := zo_F_fr ht8 hF (zo_id_ex h2)
          have e25 : zy_mix X J2 132 25 = 0 := by show J2 132 25 = 0; rw [zy_fr_at h2 132 25 (by decide)]; exact w2
          have e3 : zy_mix X J2 132 3 = nI P := by show J2 132 3 = nI P; rw [zy_fr_at h2 132 3 (by decide)]; exact h3
          refine sg_204_87 hY _ _ ⟨fun h => absurd e25 h, fun _ => zy_189 hY hP e3 ⟨hY, fun _ => ?_, fun h => ?_⟩⟩
          · exact pas J2 hF2 l E d X L Y _ hY ⟨hY, hq⟩
          · rw [wI J2 h2 X, h0] at h; exact absurd rfl h
        refine ⟨zx_u2 J 132 15 (nI (j + 1)), c, u, false, (base15 false hX).1, (base15 false hX).2, zo_id_ex zo_id_15, ⟨Nat.le_refl _, Nat.le_refl _⟩, zy_u2_self, fun _ _ => ⟨zo_id_15, fun J2 h2 => ⟨zx_u2 J2 132 15 (nI (j + 1)), zy_fr_tr h2 zo_id_15, zy_u2_self, leave J2 h2⟩⟩, fun l E d X L Y Q hY hq => ?_, leave J (zy_fr_rf _ _)⟩
        rw [zo_id_mix zo_id_15] at hq
        refine sg_73_8 hY _ _ _ ⟨fun h => absurd h n300, fun _ => ⟨fun h => absurd w1 h, fun _ => ⟨hv, ?_⟩⟩⟩
        rw [nI_clamp (by omega)]
        show zx_Ci l E (d + 3 * g + 6) 5 [.ref 8, .int (J 19 a)] (zy_mix J X, L, Y) _
        rw [r19]
        refine zy_c5 hY ⟨hY, fun _ => hq, fun h => ?_⟩
        rw [wC X, h0] at h; exact absurd rfl h
      · have ne : ¬ nI c0 = 0 := fun h => h0 ((zy_eq0 (by omega)).mp h)
        by_cases h300 : u = 300
        · -- it is ended
          have fr9 : zy_fr zw_xx J (zx_u2 (zx_u2 J 17 11 1) 132 25 1) := zy_fr_u2 (zy_fr_u2 (zy_fr_rf _ _) (zy_in_at 0 17 7 12 11 rfl (by omega) (by omega))) (zy_in_at 1 132 21 26 25 rfl (by omega) (by omega))
          have hF9 := zo_F_fr ht8 hF (zy_fr_mono fr9 (by decide))
          have hX9 : zo_X (zx_u2 (zx_u2 J 17 11 1) 132 25 1) c u true := by
            obtain ⟨⟨x1, x2, x3⟩, ⟨y1, y2, y3⟩, ⟨z1, z2⟩, v1, v2⟩ := hX
            refine ⟨⟨x1, ?_, ?_⟩, ⟨y1, ?_, ?_⟩, ⟨?_, ?_⟩, ?_, ?_⟩
            · simp [zx_u2]; exact x2
            · simp [zx_u2]; exact x3
            · simp [zx_u2]; exact y2
            · simp [zx_u2]; exact y3
            · simp [zx_u2]; exact z1
            · simp [zx_u2]; exact z2
            · simp [zx_u2]
            · simp [zx_u2]
          refine ⟨zx_u2 (zx_u2 (zx_u2 J 17 11 1) 132 25 1) 132 15 (nI (j + 1)), c, u, true, zo_K_fr (zo_K_fr hK fr9 (by decide)) (zo_id_15 (x := nI (j + 1))) (by decide), zo_X_fr hX9 (zo_id_15 (x := nI (j + 1))) (by decide), zy_fr_tr (zy_fr_mono fr9 (by decide)) (zo_id_ex zo_id_15), ⟨Nat.le_refl _, Nat.le_refl _⟩, zy_u2_self, fun _ h => (by cases h), fun l E d X L Y Q hY hq => ?_, fun l E d X L Y Q hY hq => ?_⟩
          · rw [zy_mix_ilo (by omega), zy_mix_ilo (by omega)] at hq
            refine sg_73_8 hY _ _ _ ⟨fun h => absurd h n300, fun _ => ⟨fun h => absurd w1 h, fun _ => ⟨hv, ?_⟩⟩⟩
            rw [nI_clamp (by omega)]
            show zx_Ci l E (d + 3 * g + 6) 5 [.ref 8, .int (J 19 a)] (zy_mix J X, L, Y) _
            rw [r19]
            refine zy_c5 hY ⟨hY, fun h => ?_, fun _ => ⟨fun h => ?_, fun _ => ?_⟩⟩
            · rw [wC X] at h; exact absurd h ne
            · have h : J 17 10 < 300 := h
              rw [hX.2.1.2.1, h300] at h; exact absurd h (by decide)
            · dsimp only
              rw [zy_mix_ulo (by omega)]
              exact sg_73_8 hY _ _ _ ⟨fun _ => hq, fun _ => ⟨fun _ => hq, fun h => absurd (show zx_u2 J 17 11 1 17 11 = 0 from h) (by rw [zy_u2_self]; decide)⟩⟩
          · have e25 : zy_mix X J 132 25 = 0 := w2
            have e24 : zy_mix X J 132 24 = 300 := by show J 132 24 = 300; rw [hX.2.1.2.2, h300]; rfl
            refine sg_204_87 hY _ _ ⟨fun h => absurd e25 h, fun _ => zy_189 hY hP (show zy_mix X J 132 3 = nI P from h3) ⟨hY, fun h => ?_, fun _ => ⟨fun h => absurd e24 h, fun _ => ⟨fun _ => ?_, fun h => absurd h (by decide)⟩⟩⟩⟩
            · rw [wM X] at h; exact absurd h ne
            · dsimp only
              have em : zx_u2 (zy_mix X J) 132 25 1 = zy_mix X (zx_u2 (zx_u2 J 17 11 1) 132 25 1) := by
                rw [zy_mix_uhi (by omega)]
                exact zy_mix_eq (fun a k ha => by rw [zy_mix_lo ha]) (fun a k ha => by rw [zy_mix_hi ha]; unfold zx_u2; split; rfl; rw [if_neg (by omega)])
              rw [em]
              refine sg_204_87 hY _ _ ⟨fun _ => pas _ hF9 l E d X L Y _ hY ⟨hY, hq⟩, fun h => ?_⟩
              have h : zx_u2 (zx_u2 J 17 11 1) 132 25 1 132 25 = 0 := h
              rw [zy_u2_self] at h; exact absurd h (by decide)
        · -- once more
          have fr9 : zy_fr zw_xx J (zx_u2 (zx_u2 J 17 10 (nI (u + 1))) 132 24 (nI (u + 1))) := zy_fr_u2 (zy_fr_u2 (zy_fr_rf _ _) (zy_in_at 0 17 7 12 10 rfl (by omega) (by omega))) (zy_in_at 1 132 21 26 24 rfl (by omega) (by omega))
          have hX9 : zo_X (zx_u2 (zx_u2 J 17 10 (nI (u + 1))) 132 24 (nI (u + 1))) c (u + 1) false := by
            obtain ⟨⟨x1, x2, x3⟩, ⟨y1, y2, y3⟩, ⟨z1, z2⟩, v1, v2⟩ := hX
            refine ⟨⟨x1, ?_, ?_⟩, ⟨by omega, ?_, ?_⟩, ⟨?_, ?_⟩, ?_, ?_⟩
            · simp [zx_u2]; exact x2
            · simp [zx_u2]; exact x3
            · simp [zx_u2]
            · simp [zx_u2]
            · simp [zx_u2]; exact z1
            · simp [zx_u2]; exact z2
            · simp [zx_u2]; exact v1
            · simp [zx_u2]; exact v2
          generalize hJ9 : zx_u2 (zx_u2 J 17 10 (nI (u + 1))) 132 24 (nI (u + 1)) = J9 at *
          have hF9 := zo_F_fr ht8 hF (zy_fr_mono fr9 (by decide))
          have hFb : zo_F (zx_u2 J9 132 15 (nI (fr + 1))) T to (a + 1) bk := by
            have := zo_F_fr ht8 hF9 (zo_id_ex (zo_id_15 (x := nI (fr + 1))))
            exact ⟨this.1, (zo_A_cons.mp this.2.1).2, ha⟩
          obtain ⟨J1, c1, u1, e1, hK1, hX1, fr1, le1, p1, id1, rC, rM⟩ := blk (zx_u2 J9 132 15 (nI (fr + 1))) c (u + 1) hFb zy_u2_self (zo_K_fr (zo_K_fr hK fr9 (by decide)) (zo_id_15 (x := nI (fr + 1))) (by decide)) (zo_X_fr hX9 (zo_id_15 (x := nI (fr + 1))) (by decide))
          have frJ : zy_fr zw_ex J J1 := zy_fr_tr (zy_fr_tr (zy_fr_mono fr9 (by decide)) (zo_id_ex zo_id_15)) fr1
          have hF1 := zo_F_fr ht8 hF frJ
          have hu1 := hX1.2.1.1
          -- more untils are begun
          obtain ⟨J', c', u', e', hK', hX', fr', le', p', -, sC, sM⟩ := ih (301 - u1) (by omega) (k + 1) J1 c1 u1 e1 (by omega) (by omega) hF1 hK1 hX1
          refine ⟨J', c', u', e', hK', hX', zy_fr_tr frJ fr', ⟨by omega, by omega⟩, p', fun h => by omega, fun l E d X L Y Q hY hq => ?_, fun l E d X L Y Q hY hq => ?_⟩
          · refine sg_73_8 hY _ _ _ ⟨fun h => absurd h n300, fun _ => ⟨fun h => absurd w1 h, fun _ => ⟨hv, ?_⟩⟩⟩
            rw [nI_clamp (by omega)]
            show zx_Ci l E (d + 3 * g + 6) 5 [.ref 8, .int (J 19 a)] (zy_mix J X, L, Y) _
            rw [r19]
            refine zy_c5 hY ⟨hY, fun h => ?_, fun _ => ⟨fun _ => ⟨hv, ?_⟩, fun h => ?_⟩⟩
            · rw [wC X] at h; exact absurd h ne
            · dsimp only
              rw [nI_1, nI_1, nI_1]
              show zx_Cv l E (d + 3 * g + 6) 66 [.ref 17, .int (nI (a + 1)), .int (J 20 a), .int (nI (4 - (g + 1) + 1))] (zx_u2 (zy_mix J X) 17 10 (J 17 10 + 1), L, Y) _
              rw [r20, show 4 - (g + 1) + 1 = 4 - g by omega, hX.2.1.2.1, nI_1, zy_mix_ulo (by omega)]
              have e0 : zy_mix (zx_u2 J 17 10 (nI (u + 1))) X = zy_mix (zx_u2 J9 132 15 (nI (fr + 1))) X := by
                rw [zy_mix_ilo (a := 132) (by omega), ← hJ9, zy_mix_ilo (a := 132) (by omega)]
              rw [e0]
              refine sg_66_0 hY _ _ _ ?_
              rw [if_neg (fun h => by have := (nI_ltI (a := 60) (by omega) (by omega)).mp h; omega)]
              exact rC 0 l E d X L Y _ (Nat.zero_le _) hY ⟨rfl, hY, sC l E d X L Y Q hY hq⟩
            · have h : ¬ J 17 10 < 300 := h
              rw [hX.2.1.2.1] at h
              exact absurd ((nI_ltI (b := 300) (by omega) (by omega)).mpr (by omega)) h
          · have e25 : zy_mix X J 132 25 = 0 := w2
            have e24 : ¬ zy_mix X J 132 24 = 300 := fun h => by
              have h : J 132 24 = 300 := h
              rw [hX.2.1.2.2] at h
              exact h300 ((nI_eq (b := 300) (by omega) (by omega)).mp h)
            refine sg_204_87 hY _ _ ⟨fun h => absurd e25 h, fun _ => zy_189 hY hP (show zy_mix X J 132 3 = nI P from h3) ⟨hY, fun h => ?_, fun _ => ⟨fun _ => ⟨fun h => absurd rfl h, fun _ => ?_⟩, fun h => absurd h e24⟩⟩⟩
            · rw [wM X] at h; exact absurd h ne
            · dsimp only
              rw [zy_u2_sm (J := zy_mix X J) (a := 132) (k := 25) (v := 0) e25, nI_1]
              show zx_Cv l E (d + 2 * g + 6) 205 [.ref 132] (zx_u2 (zx_u2 (zy_mix X J) 132 24 (J 132 24 + 1)) 132 15 (nI (fr + 1)), L, Y) _
              rw [hX.2.1.2.2, nI_1, zy_mix_uhi (by omega), zy_mix_uhi (by omega)]
              have e0 : zy_mix X (zx_u2 (zx_u2 J 132 24 (nI (u + 1))) 132 15 (nI (fr + 1))) = zy_mix X (zx_u2 J9 132 15 (nI (fr + 1))) := by
                rw [← hJ9]
                exact zy_mix_eq (fun a k ha => by rw [zy_mix_lo ha]) (fun a k ha => by
                  rw [zy_mix_hi ha]; unfold zx_u2
                  split
                  · rfl
                  · split
                    · rfl
                    · rw [if_neg (by omega)])
              rw [e0]
              exact sg_205_0 hY (rM l E d X L Y _ hY ⟨rfl, hY, sM l E d X L Y Q hY hq⟩)
end YEx
