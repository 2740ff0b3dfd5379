/-! ===== search: what is known, and looking ===== -/
def zs_LU (I : Nat → Nat → Int32) (L : Nat → Nat → Int64) (f : Nat → Nat) (N : Nat) (π : Nat → Nat) (G : Nat) (fr : Nat → Nat) (lg : Nat) : Prop := zs_F f 10 ∧ zs_Om f 10 N π ∧ zs_Gr f π N G fr ∧ zs_U I L f N π G fr lg
def zs_sto (I : Nat → Nat → Int32) (Y : zx_Y) (q : Nat → Nat) (R Z mk nf : Nat) : Prop := zs_Q Y q R Z ∧ I 22 11 = nI mk ∧ I 22 12 = nI nf ∧ ∀ a, a < Z → ∃ v, I (q 9) a = nI v ∧ v ≤ mk + nf
/-- searched with a boat of b -/
def zs_ST (I : Nat → Nat → Int32) (L : Nat → Nat → Int64) (Y : zx_Y) (f : Nat → Nat) (N : Nat) (π : Nat → Nat) (G : Nat) (fr q : Nat → Nat) (R Z mk nf b : Nat) : Prop :=
  (20000 < zs_nV f π N b ∧ I 22 14 = -3) ∨ (zs_nV f π N b ≤ 20000 ∧ ∃ sb at_ ns ss pps cs, zs_GT f π fr 10 N G b G I L Y q R Z sb mk at_ ns ss pps cs ∧ nf = at_ G ∧ I 62 G = nI (at_ G) ∧ I 22 15 = nI (zg_pr (zs_cu f π fr 10 N G ns ss) G) ∧ I 22 16 = nI (zg_pr (zs_cn f π fr 10 N G ns ss) G) ∧ I 22 14 = nI (zg_pr ns G))
def zs_S1 (I : Nat → Nat → Int32) (L : Nat → Nat → Int64) (Y : zx_Y) (f : Nat → Nat) (B k : Nat) : Prop :=
  ∃ N π G fr lg q R Z mk nf, zs_LU I L f N π G fr lg ∧ ((∀ p, p < 10 → I 61 p = nI (f p)) ∧ ∀ p, 10 ≤ p → f p = 0) ∧ zs_sto I Y q R Z mk nf ∧ (mk + nf ≤ 20006 * k ∧ zs_rm B Y.2.2.2.2 R Z) ∧
    (I 22 13 = 0 ∨ ∃ b, 1 ≤ b ∧ b ≤ 10 ∧ I 22 13 = nI b ∧ zs_ST I L Y f N π G fr q R Z mk nf b)
/-- searched just now -/
def zs_S2 (I : Nat → Nat → Int32) (L : Nat → Nat → Int64) (Y : zx_Y) (f : Nat → Nat) (b B k : Nat) : Prop :=
  ∃ N π G fr lg q R Z mk nf, zs_LU I L f N π G fr lg ∧ ((∀ p, p < 10 → I 61 p = nI (f p)) ∧ ∀ p, 10 ≤ p → f p = 0) ∧ zs_sto I Y q R Z mk nf ∧ (mk + nf ≤ 20006 * k ∧ zs_rm B Y.2.2.2.2 R Z) ∧ I 22 13 = nI b ∧ zs_ST I L Y f N π G fr q R Z mk nf b
theorem zs_S2_1 {I : Nat → Nat → Int32} {L : Nat → Nat → Int64} {Y : zx_Y} {f : Nat → Nat} {b B k : Nat} (h1 : 1 ≤ b) (h2 : b ≤ 10) (h : zs_S2 I L Y f b B k) : zs_S1 I L Y f B k := by
  obtain ⟨N, π, G, fr, lg, q, R, Z, mk, nf, a1, a2, a3, a4, a5, a6⟩ := h
  exact ⟨N, π, G, fr, lg, q, R, Z, mk, nf, a1, a2, a3, a4, Or.inr ⟨b, h1, h2, a5, a6⟩⟩
theorem zs_GT_cong {f π fr : Nat → Nat} {P N G b g : Nat} {I J : Nat → Nat → Int32} {L K : Nat → Nat → Int64} {Y Y' : zx_Y} {q : Nat → Nat} {R Z sb mk : Nat} {at_ ns : Nat → Nat} {ss pps cs : Nat → Nat → Nat} (h : zs_GT f π fr P N G b g I L Y q R Z sb mk at_ ns ss pps cs) (hQ : zs_Q Y' q R Z) (h1 : ∀ k, J (q 6) k = I (q 6) k ∧ J (q 7) k = I (q 7) k ∧ J (q 8) k = I (q 8) k ∧ J (q 9) k = I (q 9) k) (h2 : J 22 10 = I 22 10 ∧ J 22 11 = I 22 11 ∧ J 22 12 = I 22 12) (h3 : ∀ k, K (q 5) k = L (q 5) k) (h4 : ∀ h, h < g → J 62 h = I 62 h) : zs_GT f π fr P N G b g J K Y' q R Z sb mk at_ ns ss pps cs := by
  obtain ⟨⟨rw, pa, ca, lo, hD, x1⟩, ⟨y1, y2, y3⟩, z⟩ := h
  have hD2 := zs_Dm_cong hD h1 h2
  obtain ⟨-, b1, b2, b3, b4⟩ := hD2
  exact ⟨⟨rw, pa, ca, lo, ⟨hQ, b1, b2, fun i hi => by rw [h3]; exact b3 i hi, b4⟩, x1⟩, ⟨y1, y2, fun h hh => by rw [h4 h hh]; exact y3 h hh⟩, z⟩
theorem zs_ST_cong {I J : Nat → Nat → Int32} {L K : Nat → Nat → Int64} {Y Y' : zx_Y} {f : Nat → Nat} {N : Nat} {π : Nat → Nat} {G : Nat} {fr q : Nat → Nat} {R Z mk nf b : Nat} (h : zs_ST I L Y f N π G fr q R Z mk nf b) (hQ0 : zs_Q Y q R Z) (hQ : zs_Q Y' q R Z) (h1 : ∀ a k, 71 ≤ a → (a ≤ 75 ∨ 160 ≤ a) → J a k = I a k ∧ K a k = L a k) (h2 : ∀ k, 10 ≤ k → k ≤ 16 → k ≠ 13 → J 22 k = I 22 k) (h3 : ∀ h, h ≤ G → J 62 h = I 62 h) : zs_ST J K Y' f N π G fr q R Z mk nf b := by
  have nq := (zs_Q_ne hQ0).2.2.2.2
  have e : ∀ k, 5 ≤ k → k ≤ 9 → ∀ x, J (q k) x = I (q k) x ∧ K (q k) x = L (q k) x := fun k k1 k2 x => h1 _ _ (nq k k1 k2).1 (nq k k1 k2).2
  rcases h with ⟨a1, a2⟩ | ⟨a1, sb, at_, ns, ss, pps, cs, a2, a3, a4, a5, a6, a7⟩
  · exact Or.inl ⟨a1, by rw [h2 14 (by omega) (by omega) (by omega)]; exact a2⟩
  · exact Or.inr ⟨a1, sb, at_, ns, ss, pps, cs, zs_GT_cong a2 hQ (fun k => ⟨(e 6 (by omega) (by omega) k).1, (e 7 (by omega) (by omega) k).1, (e 8 (by omega) (by omega) k).1, (e 9 (by omega) (by omega) k).1⟩) ⟨h2 _ (by omega) (by omega) (by omega), h2 _ (by omega) (by omega) (by omega), h2 _ (by omega) (by omega) (by omega)⟩ (fun k => (e 5 (by omega) (by omega) k).2) (fun h hh => h3 h (by omega)), a3, by rw [h3 G (Nat.le_refl _)]; exact a4, by rw [h2 15 (by omega) (by omega) (by omega)]; exact a5, by rw [h2 16 (by omega) (by omega) (by omega)]; exact a6, by rw [h2 14 (by omega) (by omega) (by omega)]; exact a7⟩
section YB
variable {l : Launch} {E : zx_E} {d : Nat} {I : Nat → Nat → Int32} {L : Nat → Nat → Int64} {Y : zx_Y} {Qo : Option Value → zx_M → Prop} {Q : Int32 → zx_M → Prop} {Ql : Int64 → zx_M → Prop} {Qv : zx_M → Prop} {f f0 : Nat → Nat} {b B k : Nat}
theorem zy_87 (hY : zx_lay Y) (h1 : (∀ p, p < 10 → I 9 p = I 61 p) → Q 1 (I, L, Y)) (h0 : Q 0 (I, L, Y)) : zx_Ci l E d 87 [.ref 22, .ref 8] (I, L, Y) Q := by
  refine sg_87_0 hY ?_
  have key : ∀ r i, i + r = 10 → (∀ p, p < i → I 9 p = I 61 p) → zx_To l E d 87 2 [some (.ref 22), some (.ref 8), some (.int (nI i))] [] (I, L, Y) (fun r M' => ∃ v, r = some (.int v) ∧ Q v M') := by
    intro r
    induction r with
    | zero =>
      intro i hi h
      have ei : i = 10 := by omega
      subst ei
      exact sg_87_2 hY _ ⟨fun _ => ⟨_, rfl, h1 h⟩, fun z => absurd ((zy_10 (by omega)).mpr (Nat.le_refl _)) z⟩
    | succ r ih =>
      intro i hi h
      have hin : vp_in (nI i) 10 := vp_in_nI (by omega) (by omega)
      refine sg_87_2 hY _ ⟨fun z => ?_, fun _ => ⟨hin, hin, fun z => ?_, fun _ => ⟨_, rfl, h0⟩⟩⟩
      · rw [zy_10 (by omega)] at z; omega
      · rw [nI_clamp (by omega)] at z
        rw [nI_1]
        refine ih (i + 1) (by omega) (fun p hp => ?_)
        by_cases e : p = i
        · rw [e]; exact z
        · exact h p (by omega)
  exact key 10 0 (by omega) (fun p hp => by omega)
theorem zy_86 (hY : zx_lay Y) (hF : zs_F f 10) (h9 : ∀ p, p < 10 → I 9 p = nI (f p)) (hz : ∀ p, 10 ≤ p → f p = 0) (hS : zs_S1 I L Y f0 B k)
    (hq : ∀ J K, zs_S1 J K Y f B k → (∀ a x, ¬ (23 ≤ a ∧ a ≤ 61) → ¬ (a = 22 ∧ x = 13) → J a x = I a x) → (∀ a x, ¬ (23 ≤ a ∧ a ≤ 60) → K a x = L a x) → Qv (J, K, Y)) :
    zx_Cv l E (d + 3) 86 [.ref 22, .ref 8] (I, L, Y) Qv := by
  refine sg_86_0 hY (zy_87 hY (fun hk => ⟨hY, fun _ => ⟨rfl, ?_⟩, fun z => absurd z (by decide)⟩) ⟨hY, fun z => absurd rfl z, fun _ => ?_⟩)
  · obtain ⟨N, π, G, fr, lg, q, R, Z, mk, nf, a1, ⟨a2, a2'⟩, a3⟩ := id hS
    have e : f0 = f := by
      funext p
      by_cases z : p < 10
      · have := hk p z
        rw [h9 p z, a2 p z, nI_eq (by have := (hF.2.1 p z).1; omega) (by have := (a1.1.2.1 p z).1; omega)] at this
        exact this.symm
      · rw [a2' p (by omega), hz p (by omega)]
    rw [e] at hS
    exact hq I L hS (fun _ _ _ _ => rfl) (fun _ _ _ => rfl)
  · obtain ⟨N, π, G, fr, lg, q, R, Z, mk, nf, a1, a2, ⟨a3, a4, a5, a6⟩, a7, a8⟩ := hS
    have e61 : ∀ a x, a ≠ 61 → zx_ur I 61 (va_cpy (I 9) (I 61) 0 0 10) a x = I a x := fun a x ha => by unfold zx_ur; rw [if_neg ha]
    have c61 : ∀ p, p < 10 → zx_ur I 61 (va_cpy (I 9) (I 61) 0 0 10) 61 p = nI (f p) := fun p hp => by
      unfold zx_ur
      rw [if_pos rfl, zy_cpy0, if_pos hp]; exact h9 p hp
    have q9 := (zs_Q_ne a3).2.2.2.2 9 (by omega) (by omega)
    refine zy_23 (f := f) (P := 10) hY hF (fun p hp => by rw [e61 9 p (by omega)]; exact h9 p hp) (fun J K N' π' G' fr' lg' o1 o2 o3 o4 o5 => ⟨hY, rfl, ?_⟩)
    have eJ : ∀ a x, ¬ (23 ≤ a ∧ a ≤ 61) → ¬ (a = 22 ∧ x = 13) → zx_u2 J 22 13 0 a x = I a x := fun a x h1 h2 => by rw [zy_u2_ne h2, o4 a x (by omega), e61 a x (by omega)]
    refine hq (zx_u2 J 22 13 0) K ⟨N', π', G', fr', lg', q, R, Z, mk, nf, ⟨hF, o1, o2, zs_U_cong o1.1 o3 (fun a x h1 h2 _ => zy_u2_na (by omega)) (fun _ _ _ _ => rfl)⟩, ⟨fun p hp => by rw [zy_u2_na (by omega), o4 61 p (by omega)]; exact c61 p hp, hz⟩, ⟨a3, by rw [eJ _ _ (by omega) (by omega)]; exact a4, by rw [eJ _ _ (by omega) (by omega)]; exact a5, fun x hx => by rw [eJ _ _ (by omega) (by omega)]; exact a6 x hx⟩, a7, Or.inl zy_u2_self⟩ eJ o5
/-- what looking leaves as it was -/
def zs_fk (I J : Nat → Nat → Int32) (L K : Nat → Nat → Int64) : Prop := (∀ a x, a < 160 → ¬ (22 ≤ a ∧ a ≤ 75) → J a x = I a x) ∧ ∀ a x, a < 160 → ¬ (22 ≤ a ∧ a ≤ 75) → K a x = L a x
theorem zy_85 (hY : zx_lay Y) (hF : zs_F f 10) (h9 : ∀ p, p < 10 → I 9 p = nI (f p)) (hz : ∀ p, 10 ≤ p → f p = 0) (hS : zs_S1 I L Y f0 B k) (h89 : I 8 9 = nI b) (b1 : 1 ≤ b) (b2 : b ≤ 10) (hk : k ≤ 600)
    (hq : ∀ J K Y' v, zx_lay Y' → zs_S2 J K Y' f b B (k + 1) → v = J 22 14 → zs_fk I J L K → (∀ a x, a < 160 → a ≠ 22 → Y'.1 a x = Y.1 a x) → Y'.2.2.2.1 ≤ Y.2.2.2.1 + 5 → Q v (J, K, Y')) :
    zx_Ci l E (d + 6) 85 [.ref 22, .ref 8] (I, L, Y) Q := by
  refine sg_85_0 hY (zy_86 hY hF h9 hz hS (fun J K hS1 j1 j2 => ⟨hY, ?_⟩))
  obtain ⟨N, π, G, fr, lg, q, R, Z, mk, nf, a1, a2, ⟨a3, a4, a5, a6⟩, ⟨a7, a7'⟩, a8⟩ := hS1
  have e89 : J 8 9 = nI b := by rw [j1 8 9 (by omega) (by omega)]; exact h89
  have fk1 : zs_fk I J L K := ⟨fun a x h1 h2 => j1 a x (by omega) (by omega), fun a x h1 h2 => j2 a x (by omega)⟩
  have nq := (zs_Q_ne a3).2.2.2.2
  have q9 := nq 9 (by omega) (by omega)
  have G6 := a1.2.2.1.1
  have N10 := a1.2.1.1
  dsimp only
  rw [e89]
  refine ⟨fun e => ⟨_, rfl, ?_⟩, fun e => ?_⟩
  · rcases a8 with z | ⟨b', c1, c2, c3, c4⟩
    · rw [z, ← nI_0, nI_eq (by omega) (by omega)] at e; omega
    · rw [c3, nI_eq (by omega) (by omega)] at e
      subst e
      exact hq J K Y _ hY ⟨N, π, G, fr, lg, q, R, Z, mk, nf, a1, a2, ⟨a3, a4, a5, a6⟩, ⟨by omega, a7'⟩, c3, c4⟩ rfl fk1 (fun _ _ _ _ => rfl) (by omega)
  · obtain ⟨hF', hO, hG, hU⟩ := a1
    have eu : ∀ a x, ¬ (a = 22 ∧ x = 13) → zx_u2 J 22 13 (nI b) a x = J a x := fun a x h => zy_u2_ne h
    refine zy_31 hY hF hO ⟨by rw [eu _ _ (by omega)]; exact hU.1.1, fun i hi => by rw [eu _ _ (by omega), eu _ _ (by omega)]; exact hU.1.2 i hi⟩ (fun i hi => by rw [eu _ _ (by omega)]; exact (hU.2.1 i hi).1.1) (by omega) (fun J1 fw => ⟨hY, ?_⟩)
    have cl := zs_cp_le (zs_nV f π N b)
    have e1 : ∀ a x, ¬ (50 ≤ a ∧ a ≤ 59) → ¬ (a = 22 ∧ x = 13) → J1 a x = J a x := fun a x h1 h2 => by rw [fw a x h1]; exact eu a x h2
    have e13 : J1 22 13 = nI b := by rw [fw _ _ (by omega)]; exact zy_u2_self
    have hU1 : zs_U J1 K f N π G fr lg := zs_U_cong N10 hU (fun a x h1 h2 h3 => e1 a x (by omega) (by omega)) (fun _ _ _ _ => rfl)
    dsimp only
    rw [show (20000 : Int32) = nI 20000 from rfl, nI_leI (by omega) (by omega)]
    refine ⟨fun hle => ?_, fun hgt => ⟨_, rfl, ?_⟩⟩
    · have hle2 : zs_nV f π N b ≤ 20000 := by unfold zs_cp at hle; omega
      rw [zs_cp_id (by omega)]
      refine zy_88 (B := B) hY hF hO hG hU1 e13 (by omega) a3 (by rw [e1 _ _ (by omega) (by omega)]; exact a4) (by rw [e1 _ _ (by omega) (by omega)]; exact a5) (by omega) (fun x hx => by rw [e1 _ _ (by omega) (by omega)]; exact a6 x hx) a7' hle2 (fun J2 K2 Y' q' R' Z' sb at_ ns ss pps cs hY' g1 g2 g3 g4 g5 g6 g7 g8 => ⟨hY', _, rfl, ?_⟩)
      obtain ⟨rw, pa, ca, lo, hD, gx⟩ := g1.1
      have nfR := hD.2.2.1
      have R6 := hD.1.2.2.2.2.1
      have nq' := (zs_Q_ne hD.1).2.2.2.2
      have q'6 := nq' 6 (by omega) (by omega)
      have q'7 := nq' 7 (by omega) (by omega)
      have q'8 := nq' 8 (by omega) (by omega)
      have q'9 := nq' 9 (by omega) (by omega)
      have et : ∀ a x, ¬ (a = 22 ∧ x = 14) → zx_u2 J2 22 14 (nI (zg_pr ns G)) a x = J2 a x := fun a x h => zy_u2_ne h
      refine hq _ K2 Y' _ hY' ⟨N, π, G, fr, lg, q', R', Z', mk + nf, at_ G, ⟨hF, hO, hG, zs_U_cong N10 hU1 (fun a x h1 h2 h3 => by rw [et a x (by omega)]; exact g5.1 a x (by omega) (by omega) (by omega) (by omega)) (fun a x h1 h2 => g5.2 a x (by omega) (by omega))⟩, ⟨fun p hp => by rw [et _ _ (by omega), g5.1 61 p (by omega) (by omega) (by omega) (by omega), e1 _ _ (by omega) (by omega)]; exact a2.1 p hp, hz⟩, ⟨hD.1, by rw [et _ _ (by omega)]; exact hD.2.1.1.2.1, by rw [et _ _ (by omega)]; exact hD.2.1.1.2.2, fun x hx => by rw [et _ _ (by omega)]; exact hD.2.2.2.2.1 x hx⟩, ⟨by omega, g8⟩, by rw [et _ _ (by omega), g5.1 22 13 (by omega) (by omega) (by omega) (by omega)]; exact e13, Or.inr ⟨hle2, sb, at_, ns, ss, pps, cs, zs_GT_cong g1 hD.1 (fun x => ⟨et _ _ (by omega), et _ _ (by omega), et _ _ (by omega), et _ _ (by omega)⟩) ⟨et _ _ (by omega), et _ _ (by omega), et _ _ (by omega)⟩ (fun _ => rfl) (fun h _ => et _ _ (by omega)), rfl, by rw [et _ _ (by omega)]; exact g2, by rw [et _ _ (by omega)]; exact g3, by rw [et _ _ (by omega)]; exact g4, zy_u2_self⟩⟩ zy_u2_self.symm ⟨fun a x h1 h2 => ?_, fun a x h1 h2 => ?_⟩ g6 g7
      · rw [et a x (by omega), g5.1 a x h1 (by omega) (by omega) (by omega), e1 a x (by omega) (by omega)]; exact fk1.1 a x h1 h2
      · rw [g5.2 a x h1 (by omega)]; exact fk1.2 a x h1 h2
    · have hgt2 : 20000 < zs_nV f π N b := by unfold zs_cp at hgt; omega
      have et : ∀ a x, ¬ (a = 22 ∧ x = 14) → zx_u2 J1 22 14 (-3) a x = J1 a x := fun a x h => zy_u2_ne h
      refine hq _ K Y _ hY ⟨N, π, G, fr, lg, q, R, Z, mk, nf, ⟨hF, hO, hG, zs_U_cong N10 hU1 (fun a x h1 h2 h3 => et a x (by omega)) (fun _ _ _ _ => rfl)⟩, ⟨fun p hp => by rw [et _ _ (by omega), e1 _ _ (by omega) (by omega)]; exact a2.1 p hp, hz⟩, ⟨a3, by rw [et _ _ (by omega), e1 _ _ (by omega) (by omega)]; exact a4, by rw [et _ _ (by omega), e1 _ _ (by omega) (by omega)]; exact a5, fun x hx => by rw [et _ _ (by omega), e1 _ _ (by omega) (by omega)]; exact a6 x hx⟩, ⟨by omega, a7'⟩, by rw [et _ _ (by omega)]; exact e13, Or.inl ⟨hgt2, zy_u2_self⟩⟩ zy_u2_self.symm ⟨fun a x h1 h2 => ?_, fun a x h1 h2 => fk1.2 a x h1 h2⟩ (fun _ _ _ _ => rfl) (by omega)
      rw [et a x (by omega), e1 a x (by omega) (by omega)]; exact fk1.1 a x h1 h2
theorem zy_84 (hY : zx_lay Y) (hF : zs_F f 10) (h9 : ∀ p, p < 10 → I 9 p = nI (f p)) (hz : ∀ p, 10 ≤ p → f p = 0) (hS : zs_S1 I L Y f0 B k)
    (hq : ∀ J K N π, zs_Om f 10 N π → zs_S1 J K Y f B k → zs_fk I J L K → Q (nI (zs_cp (zs_nV f π N 10))) (J, K, Y)) :
    zx_Ci l E (d + 4) 84 [.ref 22, .ref 8] (I, L, Y) Q := by
  refine sg_84_0 hY (zy_86 hY hF h9 hz hS (fun J K hS1 j1 j2 => ⟨hY, ?_⟩))
  obtain ⟨N, π, G, fr, lg, q, R, Z, mk, nf, ⟨hF', hO, hG, hU⟩, a2, ⟨a3, a4, a5, a6⟩, a7, a8⟩ := hS1
  have N10 := hO.1
  have G6 := hG.1
  have q9 := (zs_Q_ne a3).2.2.2.2 9 (by omega) (by omega)
  refine zy_31 (b := 10) hY hF hO hU.1 (fun i hi => (hU.2.1 i hi).1.1) (by omega) (fun J1 fw => ⟨hY, _, rfl, ?_⟩)
  refine hq J1 K N π hO ⟨N, π, G, fr, lg, q, R, Z, mk, nf, ⟨hF, hO, hG, zs_U_cong N10 hU (fun a x h1 h2 h3 => fw a x (by omega)) (fun _ _ _ _ => rfl)⟩, ⟨fun p hp => by rw [fw _ _ (by omega)]; exact a2.1 p hp, hz⟩, ⟨a3, by rw [fw _ _ (by omega)]; exact a4, by rw [fw _ _ (by omega)]; exact a5, fun x hx => by rw [fw _ _ (by omega)]; exact a6 x hx⟩, a7, ?_⟩ ⟨fun a x h1 h2 => by rw [fw a x (by omega)]; exact j1 a x (by omega) (by omega), fun a x h1 h2 => j2 a x (by omega)⟩
  rcases a8 with z | ⟨b', c1, c2, c3, c4⟩
  · exact Or.inl (by rw [fw _ _ (by omega)]; exact z)
  · exact Or.inr ⟨b', c1, c2, by rw [fw _ _ (by omega)]; exact c3, zs_ST_cong c4 a3 a3 (fun a x h1 h2 => ⟨fw a x (by omega), rfl⟩) (fun x _ _ _ => fw _ _ (by omega)) (fun h hh => fw _ _ (by omega))⟩
end YB
