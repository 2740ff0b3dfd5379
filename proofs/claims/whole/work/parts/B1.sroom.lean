/-! ===== search: room for the rows ===== -/
/-- a new row of numbers, told at place k of the search -/
def zs_Yn (Y : zx_Y) (kd ln k : Nat) : zx_Y := (zx_u2 (zx_ur Y.1 Y.2.2.2.1 (fun _ => none)) 22 k (some Y.2.2.2.1), zx_u1 Y.2.1 Y.2.2.2.1 kd, zx_u1 Y.2.2.1 Y.2.2.2.1 ln, Y.2.2.2.1 + 1, Y.2.2.2.2 + ln)
theorem zs_Yn_lay {Y : zx_Y} {kd ln k : Nat} (h : zx_lay Y) (h1 : 5 ≤ k) (h2 : k ≤ 9) : zx_lay (zs_Yn Y kd ln k) := by
  obtain ⟨a1, a2, a3, a4⟩ := h
  refine ⟨by show 160 ≤ Y.2.2.2.1 + 1; omega, fun i hi => ?_, fun i h0 hi => ?_, fun j x hx => ?_⟩
  · show zx_u1 Y.2.1 Y.2.2.2.1 kd i = _
    unfold zx_u1
    rw [if_neg (by omega)]; exact a2 i hi
  · show zx_u1 Y.2.2.1 Y.2.2.2.1 ln i = _
    unfold zx_u1
    rw [if_neg (by omega)]; exact a3 i h0 hi
  · have hall : (zx_RF.all fun x => Nat.blt x.1 160 && !(Nat.beq x.1 22 && (Nat.ble 5 x.2.1 && Nat.ble x.2.1 9))) = true := by decide
    have h9 := List.all_eq_true.mp hall x (List.mem_of_getElem? hx)
    rw [Bool.and_eq_true, Bool.not_eq_true'] at h9
    have l1 : x.1 < 160 := Nat.le_of_ble_eq_true h9.1
    have ne : ¬ (x.1 = 22 ∧ x.2.1 = k) := fun ⟨e1, e2⟩ => by
      have := h9.2
      rw [e1, e2, Nat.ble_eq_true_of_le h1, Nat.ble_eq_true_of_le h2] at this
      cases this
    show zx_u2 (zx_ur Y.1 Y.2.2.2.1 (fun _ => none)) 22 k (some Y.2.2.2.1) x.1 x.2.1 = _
    unfold zx_u2
    rw [if_neg ne]
    unfold zx_ur
    rw [if_neg (by omega)]
    exact a4 j x hx
theorem zs_Yn_ce {Y : zx_Y} {kd ln k q kd' ln' : Nat} (h : zs_ce Y q kd' ln') : zs_ce (zs_Yn Y kd ln k) q kd' ln' := by
  obtain ⟨a1, a2, a3, a4⟩ := h
  refine ⟨a1, by show q < Y.2.2.2.1 + 1; omega, ?_, ?_⟩
  · show zx_u1 Y.2.1 Y.2.2.2.1 kd q = _
    unfold zx_u1
    rw [if_neg (by omega)]; exact a3
  · show zx_u1 Y.2.2.1 Y.2.2.2.1 ln q = _
    unfold zx_u1
    rw [if_neg (by omega)]; exact a4
theorem zs_Yn_new {Y : zx_Y} {kd ln k : Nat} (h : zx_lay Y) : zs_ce (zs_Yn Y kd ln k) Y.2.2.2.1 kd ln := by
  refine ⟨Or.inr h.1, by show Y.2.2.2.1 < Y.2.2.2.1 + 1; omega, ?_, ?_⟩
  · show zx_u1 Y.2.1 Y.2.2.2.1 kd Y.2.2.2.1 = _
    unfold zx_u1
    rw [if_pos rfl]
  · show zx_u1 Y.2.2.1 Y.2.2.2.1 ln Y.2.2.2.1 = _
    unfold zx_u1
    rw [if_pos rfl]
theorem zs_Yn_r {Y : zx_Y} {kd ln k a b : Nat} (ha : a < Y.2.2.2.1) : (zs_Yn Y kd ln k).1 a b = if a = 22 ∧ b = k then some Y.2.2.2.1 else Y.1 a b := by
  show zx_u2 (zx_ur Y.1 Y.2.2.2.1 (fun _ => none)) 22 k (some Y.2.2.2.1) a b = _
  unfold zx_u2
  by_cases e : a = 22 ∧ b = k
  · rw [if_pos e, if_pos e]
  · rw [if_neg e, if_neg e]
    unfold zx_ur
    rw [if_neg (by omega)]
/-- how much was made for the rows -/
def zs_rm (B S R Z : Nat) : Prop := ∃ T U, S = B + 4 * T + U ∧ (T ≤ 2 * R ∨ R = 20006 ∧ T ≤ 60018) ∧ U ≤ 2 * Z ∧ (Z = 0 ∨ ∃ k, Z = 2 ^ k)
section YY
variable {l : Launch} {E : zx_E} {d : Nat} {I : Nat → Nat → Int32} {L : Nat → Nat → Int64} {Y : zx_Y} {Qo : Option Value → zx_M → Prop} {Q : Int32 → zx_M → Prop} {Ql : Int64 → zx_M → Prop} {Qv : zx_M → Prop} {q : Nat → Nat} {R Z mk nf m B : Nat}
/-- behind the four rows -/
theorem zy_89_55 (hY : zx_lay Y) (hQ : zs_Q Y q R Z) (h11 : I 22 11 = nI mk) (h12 : I 22 12 = nI nf) (hmk : mk + nf < 2 ^ 30) (hv : ∀ a, a < Z → ∃ v, I (q 9) a = nI v ∧ v ≤ mk + nf) (hm : m ≤ 20006) (hrm : zs_rm B Y.2.2.2.2 R Z)
    (hq : ∀ J K Y' q' Z' sb, zx_lay Y' → zs_Dm J K Y' q' R Z' sb (mk + nf) 0 (fun _ => 0) (fun _ => 0) (fun _ => 0) (fun _ => 0) → 3 * m ≤ 2 * 2 ^ sb → (∀ a k, a < Y.2.2.2.1 → ¬ (a = 22 ∧ (k = 10 ∨ k = 11 ∨ k = 12)) → J a k = I a k) → (∀ a k, a < Y.2.2.2.1 → K a k = L a k) → (∀ a k, a < Y.2.2.2.1 → a ≠ 22 → Y'.1 a k = Y.1 a k) → Y'.2.2.2.1 ≤ Y.2.2.2.1 + 1 → zs_rm B Y'.2.2.2.2 R Z' → Qo none (J, K, Y')) :
    zx_To l E (d + 1) 89 55 [some (.ref 22), some (.int (nI m)), none] [] (I, L, Y) Qo := by
  have n160 := hY.1
  have g9 := (zs_Q_ne hQ).2.2.2.2 9 (by omega) (by omega)
  obtain ⟨hr, ⟨c5, c6, c7, c8, c9⟩, n69, n78, R6, Z6⟩ := hQ
  refine sg_89_55 hY _ ?_
  have last : ∀ sb, 5 ≤ sb → sb ≤ 15 → 3 * m ≤ 2 * 2 ^ sb → zx_To l E (d + 1) 89 98 [some (.ref 22), none, none] [] (zx_u2 I 22 10 (nI sb), L, Y) Qo := fun sb s1 s2 s3 => by
    obtain ⟨sb1, sb2⟩ := zs_sb s1 s2
    refine sg_89_98 hY ⟨q 9, hr 9 (by omega) (by omega), zs_ce_ar c9 (by omega) (by omega), ?_⟩
    rw [zy_u2_self, nI_sh1 (by omega), (zs_ce_is c9).2, show Int32.ofNat Z = nI Z from rfl, nI_leI (by omega) (by omega)]
    have e11 : ∀ J : Nat → Nat → Int32, J = zx_u2 I 22 10 (nI sb) → J 22 11 = nI mk ∧ J 22 12 = nI nf := fun J hJ => by
      rw [hJ, zy_u2_nk (by omega), zy_u2_nk (by omega)]; exact ⟨h11, h12⟩
    refine ⟨fun hZ => sg_89_124 hY ?_, fun hZ => ⟨nI_pos (by omega), by rw [nI_clamp (by omega)]; omega, fun M2 hM2 => ?_⟩⟩
    · rw [(e11 _ rfl).1, (e11 _ rfl).2, nI_add]
      refine hq _ L Y q Z sb hY ⟨⟨hr, ⟨c5, c6, c7, c8, c9⟩, n69, n78, R6, Z6⟩, ⟨⟨?_, ?_, zy_u2_self⟩, s1, s2, hZ, by omega⟩, Nat.zero_le _, fun i hi => by omega, fun a ha => ?_, ?_⟩ s3 (fun a k _ h => by rw [zy_u2_ne (by omega), zy_u2_ne (by omega), zy_u2_ne (by omega)]) (fun _ _ _ => rfl) (fun _ _ _ _ => rfl) (by omega) hrm
      · rw [zy_u2_nk (by omega), zy_u2_nk (by omega), zy_u2_self]
      · rw [zy_u2_nk (by omega), zy_u2_self]
      · rw [zy_u2_na (by omega), zy_u2_na (by omega), zy_u2_na (by omega)]
        obtain ⟨v, v1, v2⟩ := hv a ha
        exact ⟨v, v1, by omega⟩
      · refine zq_H_0 (by omega) (fun a ha => ?_)
        obtain ⟨v, v1, v2⟩ := hv a (by omega)
        rw [zs_Ts_v (v := v) (by rw [zy_u2_na (by omega), zy_u2_na (by omega), zy_u2_na (by omega)]; exact v1) (by omega), if_neg (by omega)]
    · subst hM2
      rw [nI_clamp (by omega)]
      have hY2 := zs_Yn_lay (kd := 20) (ln := 2 ^ sb) (k := 9) hY (by omega) (by omega)
      refine ⟨zx_lis (I := I) (L := L) hY2 22 9 rfl rfl, ?_⟩
      show zx_To l E (d + 1) 89 124 [some (.ref 22), none, none] [] (zx_ur (zx_u2 I 22 10 (nI sb)) Y.2.2.2.1 (fun _ => 0), zx_ur L Y.2.2.2.1 (fun _ => 0), zs_Yn Y 20 (2 ^ sb) 9) Qo
      have el : ∀ a k, a < Y.2.2.2.1 → zx_ur (zx_u2 I 22 10 (nI sb)) Y.2.2.2.1 (fun _ => 0) a k = zx_u2 I 22 10 (nI sb) a k := fun a k ha => by unfold zx_ur; rw [if_neg (by omega)]
      have en : ∀ k, zx_ur (zx_u2 I 22 10 (nI sb)) Y.2.2.2.1 (fun _ => 0) Y.2.2.2.1 k = 0 := fun k => by unfold zx_ur; rw [if_pos rfl]
      refine sg_89_124 hY2 ?_
      rw [el 22 11 (by omega), el 22 12 (by omega), (e11 _ rfl).1, (e11 _ rfl).2, nI_add]
      refine hq _ _ _ (fun k => if k = 9 then Y.2.2.2.1 else q k) (2 ^ sb) sb hY2 ⟨⟨fun k k1 k2 => ?_, ⟨zs_Yn_ce c5, zs_Yn_ce c6, zs_Yn_ce c7, zs_Yn_ce c8, zs_Yn_new hY⟩, ?_, n78, R6, by omega⟩, ⟨⟨?_, ?_, zy_u2_self⟩, s1, s2, Nat.le_refl _, by omega⟩, Nat.zero_le _, fun i hi => by omega, fun a ha => ?_, ?_⟩ s3 (fun a k ha h => by rw [zy_u2_ne (by omega), zy_u2_ne (by omega), el a k ha, zy_u2_ne (by omega)]) (fun a k ha => by unfold zx_ur; rw [if_neg (by omega)]) (fun a k ha h22 => by rw [zs_Yn_r ha, if_neg (by omega)]) (Nat.le_refl _) ?_
      · rw [zs_Yn_r (by omega)]
        dsimp only
        by_cases e : k = 9
        · rw [if_pos ⟨rfl, e⟩, if_pos e]
        · rw [if_neg (fun z => e z.2), if_neg e]; exact hr k k1 k2
      · show q 6 ≠ Y.2.2.2.1
        have := c6.2.1; omega
      · rw [zy_u2_nk (by omega), zy_u2_nk (by omega), el 22 10 (by omega), zy_u2_self]
      · rw [zy_u2_nk (by omega), zy_u2_self]
      · show ∃ v, zx_u2 (zx_u2 _ 22 11 _) 22 12 0 Y.2.2.2.1 a = nI v ∧ _
        rw [zy_u2_na (by omega), zy_u2_na (by omega), en]
        exact ⟨0, rfl, by omega⟩
      · refine zq_H_0 (by omega) (fun a ha => ?_)
        show zs_Ts _ Y.2.2.2.1 _ _ a = none
        unfold zs_Ts
        rw [zy_u2_na (by omega), zy_u2_na (by omega), en, if_neg]
        intro z
        have := z.1
        rw [show (0 : Int32).toNatClampNeg = 0 by decide] at this
        omega
      · obtain ⟨T, U, t1, t2, t3, t4⟩ := hrm
        refine ⟨T, U + 2 ^ sb, ?_, t2, ?_, Or.inr ⟨sb, rfl⟩⟩
        · show Y.2.2.2.2 + 2 ^ sb = _; omega
        · rcases t4 with z | ⟨k, z⟩
          · omega
          · have lt : k < sb := by
              by_cases y : k < sb
              · exact y
              · have := Nat.pow_le_pow_right (n := 2) (by omega) (show sb ≤ k by omega); omega
            have : 2 ^ (k + 1) ≤ 2 ^ sb := Nat.pow_le_pow_right (by omega) (by omega)
            rw [Nat.pow_succ] at this
            omega
  have key : ∀ r i, i + r = 10 → zx_To l E (d + 1) 89 62 [some (.ref 22), some (.int (nI m)), some (.int (nI i))] [] (zx_u2 I 22 10 (nI (5 + i)), L, Y) Qo := by
    intro r
    induction r with
    | zero =>
      intro i hi
      have ei : i = 10 := by omega
      subst ei
      refine sg_89_62 hY _ _ ⟨fun h => ?_, fun _ => ⟨fun _ => last 15 (by omega) (by omega) (by omega), fun h => ?_⟩⟩
      · rw [show (12 : Int32) = nI 12 from rfl, nI_leI (by omega) (by omega)] at h; omega
      · refine absurd ?_ h
        rw [zy_u2_self, nI_sh1 (by omega), show nI m * 3 = nI (m * 3) from (Int32.ofNat_mul m 3).symm, show nI (2 ^ (5 + 10)) * 2 = nI (2 ^ (5 + 10) * 2) from (Int32.ofNat_mul _ 2).symm, nI_leI (by omega) (by omega)]
        omega
    | succ r ih =>
      intro i hi
      obtain ⟨sb1, sb2⟩ := zs_sb (sb := 5 + i) (by omega) (by omega)
      refine sg_89_62 hY _ _ ⟨fun h => ?_, fun _ => ?_⟩
      · rw [show (12 : Int32) = nI 12 from rfl, nI_leI (by omega) (by omega)] at h; omega
      · rw [zy_u2_self, nI_sh1 (by omega), show nI m * 3 = nI (m * 3) from (Int32.ofNat_mul m 3).symm, show nI (2 ^ (5 + i)) * 2 = nI (2 ^ (5 + i) * 2) from (Int32.ofNat_mul _ 2).symm, nI_leI (by omega) (by omega), zy_u2_u2, nI_1, nI_1]
        exact ⟨fun h => last (5 + i) (by omega) (by omega) (by omega), fun h => ih (i + 1) (by omega)⟩
  exact key 10 0 (by omega)
theorem zy_89 (hY : zx_lay Y) (hQ : zs_Q Y q R Z) (h11 : I 22 11 = nI mk) (h12 : I 22 12 = nI nf) (hmk : mk + nf < 2 ^ 30) (hv : ∀ a, a < Z → ∃ v, I (q 9) a = nI v ∧ v ≤ mk + nf) (hm : m ≤ 20006) (hrm : zs_rm B Y.2.2.2.2 R Z)
    (hq : ∀ J K Y' q' R' Z' sb, zx_lay Y' → zs_Dm J K Y' q' R' Z' sb (mk + nf) 0 (fun _ => 0) (fun _ => 0) (fun _ => 0) (fun _ => 0) → m ≤ R' → 3 * m ≤ 2 * 2 ^ sb → (∀ a k, a < 160 → ¬ (a = 22 ∧ (k = 10 ∨ k = 11 ∨ k = 12)) → J a k = I a k) → (∀ a k, a < 160 → K a k = L a k) → (∀ a k, a < 160 → a ≠ 22 → Y'.1 a k = Y.1 a k) → Y'.2.2.2.1 ≤ Y.2.2.2.1 + 5 → zs_rm B Y'.2.2.2.2 R' Z' → Qv (J, K, Y')) :
    zx_Cv l E (d + 1) 89 [.ref 22, .int (nI m)] (I, L, Y) Qv := by
  have n160 := hY.1
  have g9 := (zs_Q_ne hQ).2.2.2.2 9 (by omega) (by omega)
  obtain ⟨hr, ⟨c5, c6, c7, c8, c9⟩, n69, n78, R6, Z6⟩ := id hQ
  refine sg_89_0 hY _ ⟨q 5, hr 5 (by omega) (by omega), zs_ce_ar c5 (by omega) (by omega), ?_⟩
  rw [(zs_ce_is c5).2, show Int32.ofNat R = nI R from rfl, nI_leI (by omega) (by omega)]
  refine ⟨fun h => zy_89_55 hY hQ h11 h12 hmk hv hm hrm (fun J K Y' q' Z' sb y1 y2 y3 y4 y5 y6 y7 y8 => ⟨rfl, hq J K Y' q' R Z' sb y1 y2 h y3 (fun a k ha hn => y4 a k (by omega) hn) (fun a k ha => y5 a k (by omega)) (fun a k ha hn => y6 a k (by omega) hn) (by omega) y8⟩), fun h => ⟨q 5, hr 5 (by omega) (by omega), zs_ce_ar c5 (by omega) (by omega), ?_⟩⟩
  rw [(zs_ce_is c5).2, show Int32.ofNat R = nI R from rfl]
  -- the new length
  have eR : ∃ R', (if nI m < (if (20006 : Int32) < (2 : Int32) * nI R then (20006 : Int32) else (2 : Int32) * nI R) then (if (20006 : Int32) < (2 : Int32) * nI R then (20006 : Int32) else (2 : Int32) * nI R) else nI m) = nI R' ∧ m ≤ R' ∧ R' ≤ 20006 ∧ (2 * R ≤ R' ∨ R' = 20006) := by
    have e2 : (2 : Int32) * nI R = nI (2 * R) := (Int32.ofNat_mul 2 R).symm
    have e3 : (if (20006 : Int32) < nI (2 * R) then (20006 : Int32) else nI (2 * R)) = nI (min (2 * R) 20006) := by
      rw [show (20006 : Int32) = nI 20006 from rfl]
      by_cases z : 20006 < 2 * R
      · rw [if_pos ((nI_ltI (by omega) (by omega)).mpr z), show min (2 * R) 20006 = 20006 by omega]
      · rw [if_neg (fun y => z ((nI_ltI (by omega) (by omega)).mp y)), show min (2 * R) 20006 = 2 * R by omega]
    rw [e2, e3]
    by_cases z : m < min (2 * R) 20006
    · rw [if_pos ((nI_ltI (by omega) (by omega)).mpr z)]
      exact ⟨_, rfl, by omega, by omega, by omega⟩
    · rw [if_neg (fun y => z ((nI_ltI (by omega) (by omega)).mp y))]
      exact ⟨m, rfl, Nat.le_refl _, hm, by omega⟩
  obtain ⟨R', eR, r1, r2, r3⟩ := eR
  rw [eR, nI_clamp (by omega)]
  have np : ¬ nI R' < 0 := nI_pos (by omega)
  have l3 := zs_Yn_lay (kd := 21) (ln := R') (k := 5) hY (by omega) (by omega)
  have l4 := zs_Yn_lay (kd := 20) (ln := R') (k := 6) l3 (by omega) (by omega)
  have l5 := zs_Yn_lay (kd := 22) (ln := R') (k := 7) l4 (by omega) (by omega)
  have l6 := zs_Yn_lay (kd := 22) (ln := R') (k := 8) l5 (by omega) (by omega)
  refine ⟨np, by omega, fun M3 hM3 => ?_⟩
  subst hM3
  refine ⟨zx_lis (I := I) (L := L) l3 22 9 rfl rfl, np, by omega, fun M4 hM4 => ?_⟩
  subst hM4
  refine ⟨zx_lis (I := I) (L := L) l4 22 9 rfl rfl, np, by omega, fun M5 hM5 => ?_⟩
  subst hM5
  refine ⟨zx_lis (I := I) (L := L) l5 22 9 rfl rfl, np, by omega, fun M6 hM6 => ?_⟩
  subst hM6
  refine ⟨zx_lis (I := I) (L := L) l6 22 9 rfl rfl, ?_⟩
  have u : ∀ {α : Type} (F : Nat → Nat → α) (i : Nat) (g : Nat → α) (a k : Nat), a ≠ i → zx_ur F i g a k = F a k := fun F i g a k h => by unfold zx_ur; rw [if_neg h]
  show zx_To l E (d + 1) 89 55 [some (.ref 22), some (.int (nI m)), none] [] (zx_ur (zx_ur (zx_ur (zx_ur I Y.2.2.2.1 (fun _ => 0)) (Y.2.2.2.1 + 1) (fun _ => 0)) (Y.2.2.2.1 + 1 + 1) (fun _ => 0)) (Y.2.2.2.1 + 1 + 1 + 1) (fun _ => 0), zx_ur (zx_ur (zx_ur (zx_ur L Y.2.2.2.1 (fun _ => 0)) (Y.2.2.2.1 + 1) (fun _ => 0)) (Y.2.2.2.1 + 1 + 1) (fun _ => 0)) (Y.2.2.2.1 + 1 + 1 + 1) (fun _ => 0), zs_Yn (zs_Yn (zs_Yn (zs_Yn Y 21 R' 5) 20 R' 6) 22 R' 7) 22 R' 8) _
  have eI : ∀ a k, a < Y.2.2.2.1 → zx_ur (zx_ur (zx_ur (zx_ur I Y.2.2.2.1 (fun _ => 0)) (Y.2.2.2.1 + 1) (fun _ => 0)) (Y.2.2.2.1 + 1 + 1) (fun _ => 0)) (Y.2.2.2.1 + 1 + 1 + 1) (fun _ => 0) a k = I a k := fun a k ha => by rw [u _ _ _ _ _ (by omega), u _ _ _ _ _ (by omega), u _ _ _ _ _ (by omega), u _ _ _ _ _ (by omega)]
  have eL : ∀ a k, a < Y.2.2.2.1 → zx_ur (zx_ur (zx_ur (zx_ur L Y.2.2.2.1 (fun _ => 0)) (Y.2.2.2.1 + 1) (fun _ => 0)) (Y.2.2.2.1 + 1 + 1) (fun _ => 0)) (Y.2.2.2.1 + 1 + 1 + 1) (fun _ => 0) a k = L a k := fun a k ha => by rw [u _ _ _ _ _ (by omega), u _ _ _ _ _ (by omega), u _ _ _ _ _ (by omega), u _ _ _ _ _ (by omega)]
  have n3 : (zs_Yn Y 21 R' 5).2.2.2.1 = Y.2.2.2.1 + 1 := rfl
  have n4 : (zs_Yn (zs_Yn Y 21 R' 5) 20 R' 6).2.2.2.1 = Y.2.2.2.1 + 1 + 1 := rfl
  have n5 : (zs_Yn (zs_Yn (zs_Yn Y 21 R' 5) 20 R' 6) 22 R' 7).2.2.2.1 = Y.2.2.2.1 + 1 + 1 + 1 := rfl
  have n6 : (zs_Yn (zs_Yn (zs_Yn (zs_Yn Y 21 R' 5) 20 R' 6) 22 R' 7) 22 R' 8).2.2.2.1 = Y.2.2.2.1 + 1 + 1 + 1 + 1 := rfl
  have eY : ∀ a k, a < Y.2.2.2.1 → (zs_Yn (zs_Yn (zs_Yn (zs_Yn Y 21 R' 5) 20 R' 6) 22 R' 7) 22 R' 8).1 a k = if a = 22 ∧ k = 8 then some (Y.2.2.2.1 + 1 + 1 + 1) else if a = 22 ∧ k = 7 then some (Y.2.2.2.1 + 1 + 1) else if a = 22 ∧ k = 6 then some (Y.2.2.2.1 + 1) else if a = 22 ∧ k = 5 then some Y.2.2.2.1 else Y.1 a k := fun a k ha => by
    rw [zs_Yn_r (by omega), zs_Yn_r (by omega), zs_Yn_r (by omega), zs_Yn_r ha]
    rfl
  have hQ' : zs_Q (zs_Yn (zs_Yn (zs_Yn (zs_Yn Y 21 R' 5) 20 R' 6) 22 R' 7) 22 R' 8) (fun k => if k = 9 then q 9 else Y.2.2.2.1 + (k - 5)) R' Z := by
    refine ⟨fun k k1 k2 => ?_, ⟨zs_Yn_ce (zs_Yn_ce (zs_Yn_ce (zs_Yn_new hY))), zs_Yn_ce (zs_Yn_ce (zs_Yn_new l3)), zs_Yn_ce (zs_Yn_new l4), zs_Yn_new l5, zs_Yn_ce (zs_Yn_ce (zs_Yn_ce (zs_Yn_ce c9)))⟩, ?_, ?_, r2, Z6⟩
    · rw [eY 22 k (by omega)]
      have : k = 5 ∨ k = 6 ∨ k = 7 ∨ k = 8 ∨ k = 9 := by omega
      rcases this with rfl | rfl | rfl | rfl | rfl
      · rfl
      · rfl
      · rfl
      · rfl
      · exact hr 9 (by omega) (by omega)
    · show Y.2.2.2.1 + 1 ≠ q 9
      have := c9.2.1; omega
    · show Y.2.2.2.1 + 2 ≠ Y.2.2.2.1 + 3
      omega
  refine zy_89_55 (B := B) (mk := mk) (nf := nf) l6 hQ' (by rw [eI 22 11 (by omega)]; exact h11) (by rw [eI 22 12 (by omega)]; exact h12) hmk (fun a ha => by
    show ∃ v, _ = nI v ∧ _
    have c := c9.2.1
    rw [if_pos rfl, eI (q 9) a c]; exact hv a ha) hm ?_ (fun J K Y' q' Z' sb y1 y2 y3 y4 y5 y6 y7 y8 => ⟨rfl, hq J K Y' q' R' Z' sb y1 y2 r1 y3 (fun a k ha hn => by rw [y4 a k (by omega) hn, eI a k (by omega)]) (fun a k ha => by rw [y5 a k (by omega), eL a k (by omega)]) (fun a k ha hn => by rw [y6 a k (by omega) hn, eY a k (by omega), if_neg (by omega), if_neg (by omega), if_neg (by omega), if_neg (by omega)]) (by omega) y8⟩)
  obtain ⟨T, U, t1, t2, t3, t4⟩ := hrm
  refine ⟨T + R', U, ?_, ?_, t3, t4⟩
  · show Y.2.2.2.2 + R' + R' + R' + R' = _; omega
  · rcases r3 with z | z
    · left; omega
    · rcases t2 with y | ⟨y1, y2⟩
      · right; omega
      · omega
end YY
