/-! ===== search: groups; the class takes the crowd ===== -/
def zs_Gp (f π : Nat → Nat) (i γ : Nat) (fr : Nat → Nat) : Prop :=
  γ ≤ 6 ∧ (i = 0 ∧ γ = 0 ∨ 0 < i ∧ 0 < γ ∧ fr 0 = 0) ∧ (∀ g, g < γ → fr g < i) ∧ (∀ g, g + 1 < γ → fr g < fr (g + 1) ∧ zs_1 f π (fr g) < zs_1 f π (fr (g + 1))) ∧
  (∀ g k, g + 1 < γ → fr g ≤ k → k < fr (g + 1) → zs_1 f π k = zs_1 f π (fr g)) ∧ ∀ k, 0 < γ → fr (γ - 1) ≤ k → k < i → zs_1 f π k = zs_1 f π (fr (γ - 1))
section SG
variable {f π fr : Nat → Nat} {P N i γ : Nat}
theorem zs_Gp_ge (hO : zs_Om f 10 N π) (hi : i ≤ N) (h : zs_Gp f π i γ fr) : ∀ g, g < γ → g + 1 ≤ zs_1 f π (fr g) := by
  obtain ⟨h1, h2, h3, h4, h5, h6⟩ := h
  intro g
  induction g with
  | zero => intro hg; have := (zs_1_6 hO (i := fr 0) (by have := h3 0 hg; omega)).1; omega
  | succ g ih =>
    intro hg
    have := ih (by omega)
    have := (h4 g hg).2
    omega
theorem zs_Gp_new (hO : zs_Om f 10 N π) (hi : i < N) (h : zs_Gp f π i γ fr) (hn : 0 < i → zs_1 f π (i - 1) < zs_1 f π i) : γ < 6 ∧ zs_Gp f π (i + 1) (γ + 1) (fun g => if g = γ then i else fr g) := by
  have ge := zs_Gp_ge hO (by omega) h
  obtain ⟨h1, h2, h3, h4, h5, h6⟩ := h
  have last : 0 < γ → zs_1 f π (fr (γ - 1)) < zs_1 f π i := fun g0 => by
    have hi0 : 0 < i := by omega
    have := h6 (i - 1) g0 (by have := h3 (γ - 1) (by omega); omega) (by omega)
    have := hn hi0
    omega
  have lt6 : γ < 6 := by
    by_cases g0 : 0 < γ
    · have := ge (γ - 1) (by omega)
      have := last g0
      have := (zs_1_6 hO hi).2
      omega
    · omega
  refine ⟨lt6, by omega, Or.inr ⟨by omega, by omega, ?_⟩, fun g hg => ?_, fun g hg => ?_, fun g k hg k1 k2 => ?_, fun k _ k1 k2 => ?_⟩
  · show (if 0 = γ then i else fr 0) = 0
    by_cases g0 : 0 = γ
    · rw [if_pos g0]; omega
    · rw [if_neg g0]; omega
  · show (if g = γ then i else fr g) < i + 1
    by_cases e : g = γ
    · rw [if_pos e]; omega
    · rw [if_neg e]; have := h3 g (by omega); omega
  · show (if g = γ then i else fr g) < (if g + 1 = γ then i else fr (g + 1)) ∧ zs_1 f π (if g = γ then i else fr g) < zs_1 f π (if g + 1 = γ then i else fr (g + 1))
    rw [if_neg (by omega)]
    by_cases e : g + 1 = γ
    · rw [if_pos e]
      have := last (by omega)
      rw [show γ - 1 = g by omega] at this
      exact ⟨h3 g (by omega), this⟩
    · rw [if_neg e]; exact h4 g (by omega)
  · have k1 : (if g = γ then i else fr g) ≤ k := k1
    have k2 : k < (if g + 1 = γ then i else fr (g + 1)) := k2
    show zs_1 f π k = zs_1 f π (if g = γ then i else fr g)
    rw [if_neg (by omega)] at k1 ⊢
    by_cases e : g + 1 = γ
    · rw [if_pos e] at k2
      have := h6 k (by omega) (by rw [show γ - 1 = g by omega]; exact k1) k2
      rw [show γ - 1 = g by omega] at this
      exact this
    · rw [if_neg e] at k2; exact h5 g k (by omega) k1 k2
  · have k1 : (if γ + 1 - 1 = γ then i else fr (γ + 1 - 1)) ≤ k := k1
    show zs_1 f π k = zs_1 f π (if γ + 1 - 1 = γ then i else fr (γ + 1 - 1))
    rw [if_pos (by omega)] at k1 ⊢
    rw [show k = i by omega]
theorem zs_Gp_same (h : zs_Gp f π i γ fr) (hi : 0 < i) (e : zs_1 f π i = zs_1 f π (i - 1)) : zs_Gp f π (i + 1) γ fr := by
  obtain ⟨h1, h2, h3, h4, h5, h6⟩ := h
  refine ⟨h1, Or.inr ⟨by omega, by omega, by omega⟩, fun g hg => by have := h3 g hg; omega, h4, h5, fun k g0 k1 k2 => ?_⟩
  by_cases z : k = i
  · rw [z, e]; exact h6 (i - 1) g0 (by have := h3 (γ - 1) (by omega); omega) (by omega)
  · exact h6 k g0 k1 (by omega)
theorem zs_Gp_end (h : zs_Gp f π N γ fr) : zs_Gr f π N γ (fun g => if g = γ then N else fr g) := by
  obtain ⟨h1, h2, h3, h4, h5, h6⟩ := h
  refine ⟨h1, ?_, if_pos rfl, fun g hg => ?_, fun g k hg k1 k2 => ?_, fun g hg => ?_⟩
  · show (if 0 = γ then N else fr 0) = 0
    by_cases e : 0 = γ
    · rw [if_pos e]; omega
    · rw [if_neg e]; omega
  · show (if g = γ then N else fr g) < (if g + 1 = γ then N else fr (g + 1))
    rw [if_neg (by omega)]
    by_cases e : g + 1 = γ
    · rw [if_pos e]; exact h3 g hg
    · rw [if_neg e]; exact (h4 g (by omega)).1
  · have k1 : (if g = γ then N else fr g) ≤ k := k1
    have k2 : k < (if g + 1 = γ then N else fr (g + 1)) := k2
    show zs_1 f π k = zs_1 f π (if g = γ then N else fr g)
    rw [if_neg (by omega)] at k1 ⊢
    by_cases e : g + 1 = γ
    · rw [if_pos e] at k2
      have := h6 k (by omega) (by rw [show γ - 1 = g by omega]; exact k1) k2
      rw [show γ - 1 = g by omega] at this
      exact this
    · rw [if_neg e] at k2; exact h5 g k (by omega) k1 k2
  · show zs_1 f π (if g = γ then N else fr g) < zs_1 f π (if g + 1 = γ then N else fr (g + 1))
    rw [if_neg (by omega), if_neg (by omega)]
    exact (h4 g hg).2
end SG
/-- the lineup as it lies -/
def zs_U (I : Nat → Nat → Int32) (L : Nat → Nat → Int64) (f : Nat → Nat) (N : Nat) (π : Nat → Nat) (G : Nat) (fr : Nat → Nat) (lg : Nat) : Prop :=
  zs_U1 I f N π ∧ (∀ i, i < N → zs_U2 I f π i ∧ zs_U3 L f N π i) ∧ (I 23 8 = nI G ∧ ∀ g, g ≤ G → I 60 g = nI (fr g)) ∧ I 23 9 = nI lg ∧ lg ≤ 8 ∧ ∀ i, i < N → zy_len (f (π i)) ≤ lg
section YT
variable {l : Launch} {E : zx_E} {d : Nat} {I : Nat → Nat → Int32} {L : Nat → Nat → Int64} {Y : zx_Y} {Qo : Option Value → zx_M → Prop} {Q : Int32 → zx_M → Prop} {Ql : Int64 → zx_M → Prop} {Qv : zx_M → Prop} {f π fr : Nat → Nat} {P N m G lg : Nat}
theorem zy_28 (hY : zx_lay Y) (hF : zs_F f P) (hO : zs_Om f 10 N π) (h23 : I 23 7 = nI N) (hU : ∀ j, j < N → zs_U2 I f π j)
    (hq : ∀ J G fr, zs_Gr f π N G fr → J 23 8 = nI G → (∀ g, g ≤ G → J 60 g = nI (fr g)) → (∀ a k, a ≠ 60 → ¬ (a = 23 ∧ k = 8) → J a k = I a k) → Qv (J, L, Y)) :
    zx_Cv l E d 28 [.ref 23] (I, L, Y) Qv := by
  have hN := hO.1
  refine sg_28_0 hY ?_
  have v1 : (1 : Int32) = nI 1 := rfl
  have key : ∀ r i, i + r = N → ∀ J γ fr, zs_Gp f π i γ fr → J 23 8 = nI γ → (∀ g, g < γ → J 60 g = nI (fr g)) → (∀ a k, a ≠ 60 → ¬ (a = 23 ∧ k = 8) → J a k = I a k) →
      zx_To l E d 28 7 [some (.ref 23), some (.int (nI i)), none] [] (J, L, Y) (fun r M' => r = none ∧ Qv M') := by
    intro r
    induction r with
    | zero =>
      intro i hi J γ fr hG j1 j2 j3
      have ei : i = N := by omega
      subst ei
      have g6 := hG.1
      refine sg_28_7 hY _ ⟨fun _ => ?_, fun h => absurd (by rw [j3 _ _ (by omega) (by omega), h23]; exact (nI_leI (by omega) (by omega)).mpr (Nat.le_refl _)) h⟩
      rw [j1, nI_clamp (by omega), j3 23 7 (by omega) (by omega), h23]
      refine ⟨vp_in_nI (by omega) (by omega), rfl, hq _ γ _ (zs_Gp_end hG) (by rw [zy_u2_na (by omega)]; exact j1) (fun g hg => ?_) (fun a k a1 a2 => by rw [zy_u2_na a1]; exact j3 a k a1 a2)⟩
      show _ = nI (if g = γ then i else fr g)
      by_cases e : g = γ
      · rw [if_pos e, e, zy_u2_self]
      · rw [if_neg e, zy_u2_nk e]; exact j2 g (by omega)
    | succ r ih =>
      intro i hi J γ fr hG j1 j2 j3
      have hiN : i < N := by omega
      have g6 := hG.1
      have new : (0 < i → zs_1 f π (i - 1) < zs_1 f π i) → ((6 ≤ nI γ → zx_To l E d 28 7 [some (.ref 23), some (.int (nI i + 1)), none] [] (J, L, Y) (fun r M' => r = none ∧ Qv M')) ∧ (¬ 6 ≤ nI γ → vp_in (nI γ) 7 ∧ zx_To l E d 28 7 [some (.ref 23), some (.int (nI i + 1)), none] [] (zx_u2 (zx_u2 J 60 γ (nI i)) 23 8 (nI γ + 1), L, Y) (fun r M' => r = none ∧ Qv M'))) := fun hn => by
        obtain ⟨n1, n2⟩ := zs_Gp_new hO hiN hG hn
        refine ⟨fun h => ?_, fun _ => ⟨vp_in_nI (by omega) (by omega), ?_⟩⟩
        · rw [zy_6 (by omega)] at h; omega
        · rw [nI_1, nI_1]
          refine ih (i + 1) (by omega) _ (γ + 1) _ n2 zy_u2_self (fun g hg => ?_) (fun a k a1 a2 => by rw [zy_u2_ne a2, zy_u2_na a1]; exact j3 a k a1 a2)
          show _ = nI (if g = γ then i else fr g)
          rw [zy_u2_na (by omega)]
          by_cases e : g = γ
          · rw [if_pos e, e, zy_u2_self]
          · rw [if_neg e, zy_u2_nk e]; exact j2 g (by omega)
      refine sg_28_7 hY _ ⟨fun h => ?_, fun _ => ⟨fun h0 => ⟨fun q => absurd q (by decide), fun _ => ?_⟩, fun h0 => ?_⟩⟩
      · rw [j3 _ _ (by omega) (by omega), h23, nI_leI (by omega) (by omega)] at h; omega
      · rw [← nI_0, nI_eq (by omega) (by omega)] at h0
        rw [j1, nI_clamp (by omega)]
        exact new (fun q => by omega)
      · rw [← nI_0, nI_eq (by omega) (by omega)] at h0
        have c1 : (nI i).toNatClampNeg = i := nI_clamp (by omega)
        have e1 : nI i - 1 = nI (i - 1) := zy_sub_nI (b := 1) (by omega) (by omega)
        have c2 : (nI i - 1).toNatClampNeg = i - 1 := by rw [e1]; exact nI_clamp (by omega)
        refine ⟨vp_in_nI (by omega) (by omega), 28 + i, by rw [c1]; exact (zs_27 hY (by omega)).1, Or.inl (zs_28 hY (by omega)).1.1, by rw [(zs_28 hY (by omega)).1.2, v1]; exact vp_in_nI (by omega) (by omega), by rw [e1]; exact vp_in_nI (by omega) (by omega), 28 + (i - 1), by rw [c2]; exact (zs_27 hY (by omega)).1, Or.inl (zs_28 hY (by omega)).1.1, by rw [(zs_28 hY (by omega)).1.2, v1]; exact vp_in_nI (by omega) (by omega), ?_⟩
        have a1 := (hU i hiN).2 1 (zs_len1 hO hiN)
        have a2 := (hU (i - 1) (by omega)).2 1 (zs_len1 hO (by omega))
        have s1 := (zs_1_6 hO hiN).2
        have s2 := (zs_1_6 hO (i := i - 1) (by omega)).2
        rw [j3 (28 + i) 1 (by omega) (by omega), j3 (28 + (i - 1)) 1 (by omega) (by omega), a1, a2]
        show (nI (zs_1 f π i) = nI (zs_1 f π (i - 1)) → _) ∧ (¬ nI (zs_1 f π i) = nI (zs_1 f π (i - 1)) → _)
        rw [nI_eq (by omega) (by omega), j1, nI_clamp (by omega)]
        refine ⟨fun e => ⟨fun _ => ?_, fun q => absurd rfl q⟩, fun e => ⟨fun q => absurd q (by decide), fun _ => new (fun _ => ?_)⟩⟩
        · rw [nI_1]
          exact ih (i + 1) (by omega) J γ fr (zs_Gp_same hG (by omega) e) j1 j2 j3
        · have := zs_1_rise hF hO (i := i - 1) (k := i) (by omega) hiN
          omega
  exact key N 0 (by omega) _ 0 (fun _ => 0) ⟨by omega, Or.inl ⟨rfl, rfl⟩, fun g hg => by omega, fun g hg => by omega, fun g k hg => by omega, fun k hk => by omega⟩ zy_u2_self (fun g hg => by omega) (fun a k _ a2 => zy_u2_ne a2)
theorem zy_23 (hY : zx_lay Y) (hF : zs_F f P) (h9 : ∀ p, p < 10 → I 9 p = nI (f p))
    (hq : ∀ J K N π G fr lg, zs_Om f 10 N π → zs_Gr f π N G fr → zs_U J K f N π G fr lg → zs_fi I J → zs_fl L K → Qv (J, K, Y)) :
    zx_Cv l E (d + 2) 23 [.ref 23, .ref 8] (I, L, Y) Qv := by
  refine sg_23_0 hY ?_
  -- sharing
  have third : ∀ N π lg J, zs_Om f 10 N π → zs_U1 J f N π → (∀ i, i < N → zs_U2 J f π i) → J 23 9 = nI lg → lg ≤ 8 → (∀ i, i < N → zy_len (f (π i)) ≤ lg) → zs_fi I J → ∀ r i, i + r = N → ∀ K, zs_fl L K → (∀ k, k < i → zs_U3 K f N π k) →
      zx_To l E (d + 2) 23 84 [some (.ref 23), none, some (.int (nI i))] [] (J, K, Y) (fun r M' => r = none ∧ Qv M') := by
    intro N π lg J hO hU1 hU2 hl1 hl2 hl3 hfi r
    have hN := hO.1
    induction r with
    | zero =>
      intro i hi K k1 k2
      have ei : i = N := by omega
      subst ei
      refine sg_23_84 hY _ ⟨fun _ => ?_, fun h => absurd (by rw [hU1.1]; exact (nI_leI (by omega) (by omega)).mpr (Nat.le_refl _)) h⟩
      refine zy_28 hY hF hO hU1.1 hU2 (fun J' G fr hG g1 g2 g3 => ⟨hY, rfl, hq J' K i π G fr lg hO hG ⟨⟨by rw [g3 _ _ (by omega) (by omega)]; exact hU1.1, fun k hk => by rw [g3 _ _ (by omega) (by omega), g3 _ _ (by omega) (by omega)]; exact hU1.2 k hk⟩, fun k hk => ⟨⟨by rw [g3 _ _ (by omega) (by omega)]; exact (hU2 k hk).1, fun l hl => by rw [g3 _ _ (by omega) (by omega)]; exact (hU2 k hk).2 l hl⟩, k2 k hk⟩, ⟨g1, g2⟩, by rw [g3 _ _ (by omega) (by omega)]; exact hl1, hl2, hl3⟩ (fun a k ha => by rw [g3 _ _ (by omega) (by omega)]; exact hfi a k ha) k1⟩)
    | succ r ih =>
      intro i hi K k1 k2
      refine sg_23_84 hY _ ⟨fun h => ?_, fun _ => ?_⟩
      · rw [hU1.1, nI_leI (by omega) (by omega)] at h; omega
      · refine zy_27 (π := π) hY hN (by omega) hU1.1 (fun j hj => ⟨hU2 j hj, (hF.2.1 _ (hO.2.1 j hj).1).1⟩) (fun K' q1 q2 => ⟨hY, ?_⟩)
        rw [nI_1]
        refine ih (i + 1) (by omega) K' (fun a k ha => by rw [q1 a k (by omega)]; exact k1 a k ha) (fun k hk => ?_)
        by_cases z : k = i
        · rw [z]; exact q2
        · intro l l1 l2
          rw [q1 _ _ (by omega)]; exact k2 k (by omega) l l1 l2
  -- spelling
  have second : ∀ N π, zs_Om f 10 N π → ∀ r i, i + r = N → ∀ J lg, zs_U1 J f N π → (∀ k, k < i → zs_U2 J f π k) → J 23 9 = nI lg → lg ≤ 8 → (∀ k, k < i → zy_len (f (π k)) ≤ lg) → zs_fi I J →
      zx_To l E (d + 2) 23 46 [some (.ref 23), none, some (.int (nI i))] [] (J, L, Y) (fun r M' => r = none ∧ Qv M') := by
    intro N π hO r
    have hN := hO.1
    induction r with
    | zero =>
      intro i hi J lg hU1 hU2 hl1 hl2 hl3 hfi
      have ei : i = N := by omega
      subst ei
      refine sg_23_46 hY _ ⟨fun _ => ?_, fun h => absurd (by rw [hU1.1]; exact (nI_leI (by omega) (by omega)).mpr (Nat.le_refl _)) h⟩
      exact third i π lg J hO hU1 hU2 hl1 hl2 hl3 hfi i 0 (by omega) L (fun a k _ => rfl) (fun k hk => by omega)
    | succ r ih =>
      intro i hi J lg hU1 hU2 hl1 hl2 hl3 hfi
      have hiN : i < N := by omega
      refine sg_23_46 hY _ ⟨fun h => ?_, fun _ => ?_⟩
      · rw [hU1.1, nI_leI (by omega) (by omega)] at h; omega
      · have hc := (hF.2.1 _ (hO.2.1 i hiN).1).1
        have l8 := zy_len8 hc
        refine zy_26 (π := π) hY (by omega) hc (hU1.2 i hiN).2 (fun J' q1 q2 => ⟨hY, vp_in_nI (by omega) (by omega), ?_⟩)
        show zx_To l E (d + 2) 23 46 [some (.ref 23), none, some (.int (nI i + 1))] [] (zx_u2 J' 23 9 (if J' 23 9 < J' 26 (nI i).toNatClampNeg then J' 26 (nI i).toNatClampNeg else J' 23 9), L, Y) (fun r M' => r = none ∧ Qv M')
        rw [nI_clamp (by omega), q1 23 9 (by omega) (by omega), hl1, q2.1, nI_1]
        have e : (if nI lg < nI (zy_len (f (π i))) then nI (zy_len (f (π i))) else nI lg) = nI (if lg < zy_len (f (π i)) then zy_len (f (π i)) else lg) := by
          by_cases z : lg < zy_len (f (π i))
          · rw [if_pos ((nI_ltI (by omega) (by omega)).mpr z), if_pos z]
          · rw [if_neg (fun q => z ((nI_ltI (by omega) (by omega)).mp q)), if_neg z]
        rw [e]
        refine ih (i + 1) (by omega) _ _ ⟨by rw [zy_u2_nk (by omega), q1 _ _ (by omega) (by omega)]; exact hU1.1, fun k hk => ?_⟩ (fun k hk => ?_) zy_u2_self (by split <;> omega) (fun k hk => ?_) (fun a k ha => by rw [zy_u2_na (by omega), q1 _ _ (by omega) (by omega)]; exact hfi a k ha)
        · rw [zy_u2_na (by omega), zy_u2_na (by omega), q1 _ _ (by omega) (by omega), q1 _ _ (by omega) (by omega)]; exact hU1.2 k hk
        · by_cases z : k = i
          · rw [z]
            exact ⟨by rw [zy_u2_na (by omega)]; exact q2.1, fun l hl => by rw [zy_u2_na (by omega)]; exact q2.2 l hl⟩
          · have := hU2 k (by omega)
            exact ⟨by rw [zy_u2_na (by omega), q1 _ _ (by omega) (by omega)]; exact this.1, fun l hl => by rw [zy_u2_na (by omega), q1 _ _ (by omega) (by omega)]; exact this.2 l hl⟩
        · by_cases z : k = i
          · rw [z]; split <;> omega
          · have := hl3 k (by omega)
            split <;> omega
  -- inserting
  have first : ∀ r p, p + r = 10 → ∀ J N π, zs_Om f p N π → zs_U1 J f N π → zs_fi I J →
      zx_To l E (d + 2) 23 7 [some (.ref 23), some (.ref 8), some (.int (nI p))] [] (J, L, Y) (fun r M' => r = none ∧ Qv M') := by
    intro r
    induction r with
    | zero =>
      intro p hp J N π hO hU hfi
      have ep : p = 10 := by omega
      subst ep
      have hN := hO.1
      refine sg_23_7 hY _ ⟨fun _ => ?_, fun h => absurd ((zy_10 (by omega)).mpr (Nat.le_refl _)) h⟩
      exact second N π hO N 0 (by omega) _ 0 ⟨by rw [zy_u2_nk (by omega)]; exact hU.1, fun k hk => by rw [zy_u2_na (by omega), zy_u2_na (by omega)]; exact hU.2 k hk⟩ (fun k hk => by omega) zy_u2_self (by omega) (fun k hk => by omega) (fun a k ha => by rw [zy_u2_na (by omega)]; exact hfi a k ha)
    | succ r ih =>
      intro p hp J N π hO hU hfi
      have e9 : J 9 p = nI (f p) := by rw [hfi 9 p (by omega)]; exact h9 p (by omega)
      have fl := (hF.2.1 p (by omega)).1
      have hin : vp_in (nI p) 10 := vp_in_nI (by omega) (by omega)
      refine sg_23_7 hY _ ⟨fun h => ?_, fun _ => ⟨hin, fun h => ?_, fun h => ⟨hin, ?_⟩⟩⟩
      · rw [zy_10 (by omega)] at h; omega
      · rw [nI_clamp (by omega), e9, ← nI_0, nI_eq (by omega) (by omega)] at h
        rw [nI_1]
        exact ih (p + 1) (by omega) J N π (zs_Om_skip hO h) hU hfi
      · rw [nI_clamp (by omega), e9, ← nI_0, nI_eq (by omega) (by omega)] at h
        rw [nI_clamp (by omega), e9]
        refine zy_24 hY hF (by omega) h hU hO (fun J' pl p1 p2 p3 q1 q2 => ⟨hY, ?_⟩)
        rw [nI_1]
        exact ih (p + 1) (by omega) J' (N + 1) _ (zs_Om_ins hO h p1 p2 p3) q2 (fun a k ha => by rw [q1 a k (by omega) (by omega) (by omega)]; exact hfi a k ha)
  exact first 10 0 (by omega) _ 0 (fun _ => 0) zs_Om_0 ⟨zy_u2_self, fun i hi => by omega⟩ (fun a k ha => zy_u2_na (by omega))
theorem zy_29 (hY : zx_lay Y) (hN : N ≤ 10) (hU : zs_U1 I f N π) (hπ : ∀ i, i < N → π i < 10) {p : Nat} (hp : p < 10) (h1 : ∀ i, i < N → π i = p → Q (nI i) (I, L, Y)) (h2 : (∀ i, i < N → π i ≠ p) → Q (-1) (I, L, Y)) : zx_Ci l E d 29 [.ref 23, .int (nI p)] (I, L, Y) Q := by
  refine sg_29_0 hY _ ?_
  have key : ∀ r i, i + r = N → (∀ k, k < i → π k ≠ p) → zx_To l E d 29 2 [some (.ref 23), some (.int (nI p)), some (.int (nI i))] [] (I, L, Y) (fun r M' => ∃ v, r = some (.int v) ∧ Q v M') := by
    intro r
    induction r with
    | zero =>
      intro i hi hno
      have ei : i = N := by omega
      subst ei
      exact sg_29_2 hY _ _ ⟨fun _ => ⟨_, rfl, h2 hno⟩, fun h => absurd (by rw [hU.1]; exact (nI_leI (by omega) (by omega)).mpr (Nat.le_refl _)) h⟩
    | succ r ih =>
      intro i hi hno
      have := hπ i (by omega)
      refine sg_29_2 hY _ _ ⟨fun h => ?_, fun _ => ⟨vp_in_nI (by omega) (by omega), ?_⟩⟩
      · rw [hU.1, nI_leI (by omega) (by omega)] at h; omega
      · rw [nI_clamp (by omega), (hU.2 i (by omega)).1, nI_eq (by omega) (by omega)]
        refine ⟨fun z => ?_, fun z => ⟨_, rfl, h1 i (by omega) z⟩⟩
        rw [nI_1]
        refine ih (i + 1) (by omega) (fun k hk => ?_)
        by_cases e : k = i
        · rw [e]; exact z
        · exact hno k (by omega)
  exact key N 0 (by omega) (fun k hk => by omega)
theorem zy_30 (hY : zx_lay Y) (hN : N ≤ 10) (hG : zs_Gr f π N G fr) (h8 : I 23 8 = nI G) (h60 : ∀ g, g ≤ G → I 60 g = nI (fr g)) {i : Nat} (hi : i < N) (hq : Q (nI (zs_gi fr G i)) (I, L, Y)) : zx_Ci l E d 30 [.ref 23, .int (nI i)] (I, L, Y) Q := by
  obtain ⟨g1, g2, g3⟩ := zs_gi_ok hG hi
  have G6 := hG.1
  have frN : ∀ g, g ≤ G → fr g ≤ N := fun g hg => by have := zs_Gr_mono hG hg (Nat.le_refl _); rw [hG.2.2.1] at this; exact this
  refine sg_30_0 hY _ ?_
  rw [h8, show nI G - 1 = nI (G - 1) from zy_sub_nI (b := 1) (by omega) (by omega)]
  have key : ∀ r g, zs_gi fr G i + r = g → g < G → zx_To l E d 30 7 [some (.ref 23), some (.int (nI i)), some (.int (nI g))] [] (I, L, Y) (fun r M' => ∃ v, r = some (.int v) ∧ Q v M') := by
    intro r
    induction r with
    | zero =>
      intro g hg hgG
      have eg : g = zs_gi fr G i := by omega
      subst eg
      refine sg_30_7 hY _ _ ⟨fun h => ?_, fun h => ⟨vp_in_nI (by omega) (by omega), fun h2 => ?_, fun _ => ⟨_, rfl, hq⟩⟩⟩
      · rw [zy_le0 (by omega)] at h
        rw [h] at hq
        exact ⟨_, rfl, hq⟩
      · have := frN (zs_gi fr G i) (by omega)
        rw [nI_clamp (by omega), h60 _ (by omega), nI_ltI (by omega) (by omega)] at h2; omega
    | succ r ih =>
      intro g hg hgG
      obtain ⟨g', rfl⟩ : ∃ g', g = g' + 1 := ⟨g - 1, by omega⟩
      have := frN (g' + 1) (by omega)
      have := zs_Gr_mono hG (g := zs_gi fr G i + 1) (k := g' + 1) (by omega) (by omega)
      refine sg_30_7 hY _ _ ⟨fun h => ?_, fun h => ⟨vp_in_nI (by omega) (by omega), fun _ => ?_, fun h2 => ?_⟩⟩
      · rw [zy_le0 (by omega)] at h; omega
      · rw [nI_m1]; exact ih g' (by omega) (by omega)
      · rw [nI_clamp (by omega), h60 _ (by omega), nI_ltI (by omega) (by omega)] at h2; omega
  exact key (G - 1 - zs_gi fr G i) (G - 1) (by omega) (by omega)
theorem zy_32 (hY : zx_lay Y) (hN : N ≤ 10) (hU : zs_U1 I f N π) (hf : ∀ i, i < N → f (π i) < 5764801) {i : Nat} (hi : i < N) (hq : Q (nI (zy_cnt (fun j => decide (f (π j) = f (π i))) N)) (I, L, Y)) : zx_Ci l E d 32 [.ref 23, .int (nI i)] (I, L, Y) Q := by
  have fi := hf i hi
  refine sg_32_0 hY _ ?_
  refine zy_down (n := N) (P := fun j => zx_To l E d 32 4 [some (.ref 23), some (.int (nI i)), some (.int (nI (zy_cnt (fun j => decide (f (π j) = f (π i))) j))), some (.int (nI j))] [] (I, L, Y) _) ?_ (fun j hj ih => ?_)
  · exact sg_32_4 hY _ _ _ ⟨fun _ => ⟨_, rfl, hq⟩, fun h => absurd (by rw [hU.1]; exact (nI_leI (by omega) (by omega)).mpr (Nat.le_refl _)) h⟩
  · have fj := hf j hj
    rw [zy_cnt] at ih
    refine sg_32_4 hY _ _ _ ⟨fun h => ?_, fun _ => ⟨vp_in_nI (by omega) (by omega), vp_in_nI (by omega) (by omega), ?_⟩⟩
    · rw [hU.1, nI_leI (by omega) (by omega)] at h; omega
    · rw [nI_clamp (by omega), nI_clamp (by omega), (hU.2 j hj).2, (hU.2 i hi).2, nI_eq (by omega) (by omega), nI_1, nI_1]
      refine ⟨fun z => ?_, fun z => ?_⟩
      · rw [if_neg (by rw [decide_eq_false z]; decide)] at ih; exact ih
      · rw [if_pos (decide_eq_true z)] at ih; exact ih
/-- j's name is another one, with which i's begins -/
def zs_ah (f π : Nat → Nat) (i j : Nat) : Prop := f (π j) ≠ f (π i) ∧ zy_pf (f (π i)) (zy_len (f (π j))) = f (π j)
theorem zy_35 (hY : zx_lay Y) (hU : zs_U1 I f N π) (hN : N ≤ 10) (hf : ∀ i, i < N → f (π i) < 5764801) {i : Nat} (hi : i < N)
    (h1 : ∀ j, j < i → zs_ah f π i j → (∀ k, j < k → k < i → ¬ zs_ah f π i k) → Q (nI j) (I, L, Y)) (h2 : (∀ k, k < i → ¬ zs_ah f π i k) → Q (-1) (I, L, Y)) : zx_Ci l E (d + 1) 35 [.ref 23, .int (nI i)] (I, L, Y) Q := by
  have fi := hf i hi
  refine sg_35_0 hY _ ?_
  rw [zg_pd_sub]
  have key : ∀ j, j ≤ i → (∀ k, j ≤ k → k < i → ¬ zs_ah f π i k) → zx_To l E (d + 1) 35 4 [some (.ref 23), some (.int (nI i)), some (.int (zg_pd j))] [] (I, L, Y) (fun r M' => ∃ v, r = some (.int v) ∧ Q v M') := by
    intro j
    induction j with
    | zero =>
      intro _ hno
      exact sg_35_4 hY _ _ ⟨fun _ => ⟨_, rfl, h2 (fun k hk => hno k (by omega) hk)⟩, fun h => absurd (by decide : (-1 : Int32) < 0) h⟩
    | succ j ih =>
      intro hj hno
      have fj := hf j (by omega)
      have hin : vp_in (nI i) 10 := vp_in_nI (by omega) (by omega)
      have hjn : vp_in (nI j) 10 := vp_in_nI (by omega) (by omega)
      have next : ¬ zs_ah f π i j → zx_To l E (d + 1) 35 4 [some (.ref 23), some (.int (nI i)), some (.int (nI j + (-1)))] [] (I, L, Y) (fun r M' => ∃ v, r = some (.int v) ∧ Q v M') := fun z => by
        rw [zg_pd_add]
        refine ih (by omega) (fun k k1 k2 => ?_)
        by_cases e : k = j
        · rw [e]; exact z
        · exact hno k (by omega) k2
      refine sg_35_4 hY _ _ ⟨fun h => absurd h (nI_pos (by omega)), fun _ => ⟨hjn, hin, ?_⟩⟩
      show _ ∧ _
      rw [show zg_pd (j + 1) = nI j from rfl, nI_clamp (by omega), nI_clamp (by omega), (hU.2 j (by omega)).2, (hU.2 i hi).2, nI_eq (by omega) (by omega)]
      refine ⟨fun z => next (fun q => q.1 z), fun z => ⟨hin, hjn, zy_162 hY fi (by omega) ⟨hY, fun h => next (fun q => ?_), fun h => ⟨_, rfl, h1 j (by omega) ⟨z, ?_⟩ (fun k k1 k2 => hno k (by omega) k2)⟩⟩⟩⟩
      · rw [zy_b0] at h
        unfold zy_st at h
        exact of_decide_eq_false h q.2
      · rw [zy_b1] at h
        unfold zy_st at h
        exact of_decide_eq_true h
  exact key i (Nat.le_refl _) (fun k k1 k2 => by omega)
end YT
