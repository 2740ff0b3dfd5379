/-! ===== search: the class tells calls ===== -/
theorem zh_tk_le {wy : Nat → Nat → Nat} {G : Nat} : ∀ i h, zh_tk wy G i h ≤ i
  | 0, h => Nat.le_refl _
  | i + 1, h => by
    have := zh_tk_le (wy := wy) (G := G) i h
    rw [zh_tk]
    cases zg_fb (fun g => decide (wy g (zh_tk wy G i g) ≠ 0)) (fun g => wy g (zh_tk wy G i g)) G with
    | none => show zh_tk wy G i h ≤ i + 1; omega
    | some g =>
      show (if h = g then zh_tk wy G i h + 1 else zh_tk wy G i h) ≤ i + 1
      split <;> omega
theorem zh_wy_lt {f : Nat → Nat} {P : Nat} {s ps c : Nat → Nat} {w j : Nat} (hf : ∀ p, p < 10 → f p < 5764801) (hP : P ≤ 10) : zh_wy f P s ps c w j < 2 ^ 31 := by
  unfold zh_wy
  split
  · refine Nat.lt_of_le_of_lt (zy_pf_le _ _) (Nat.lt_of_lt_of_le (hf _ ?_) (by decide))
    unfold zh_mp
    cases h : (List.range P).find? (fun p => decide (zg_d (s (zq_up ps (c w - j - 1) w)) p < zg_d (s (zq_up ps (c w - j) w)) p)) with
    | none => show 0 < 10; omega
    | some p => have := List.mem_range.mp (List.mem_of_find?_eq_some h); show p < 10; omega
  · decide
theorem zy_tell_u2 {J : Nat → Nat → Int32} {vs : List Int32} {a k : Nat} {v : Int32} (h : a ≠ 6 ∧ a ≠ 7) : zx_u2 (zy_tell J vs) a k v = zy_tell (zx_u2 J a k v) vs := by
  funext x y
  unfold zx_u2 zy_tell
  dsimp only
  by_cases e : x = a ∧ y = k
  · rw [if_pos e, if_neg (by omega), if_neg (by omega), if_pos e]
  · rw [if_neg e, if_neg e]
section YG
variable {l : Launch} {E : zx_E} {d : Nat} {I : Nat → Nat → Int32} {L : Nat → Nat → Int64} {Y : zx_Y} {Qo : Option Value → zx_M → Prop} {Q : Int32 → zx_M → Prop} {Ql : Int64 → zx_M → Prop} {Qv : zx_M → Prop} {f π fr q : Nat → Nat} {P N G g b R Z sb mk lg : Nat} {at_ ns : Nat → Nat} {ss pps cs : Nat → Nat → Nat} {α ο : Nat → Nat} {md : Bool}
theorem zy_102 (hY : zx_lay Y) (hZ : zs_Z f π fr N G b lg I L Y q R Z sb mk at_ ns ss pps cs) (hW : zs_Wm L α ο md)
    (h2 : ∀ g, g < G → zg_fb (zs_wr π fr α ο md ss g) (zg_kc f 10 (ss g) (cs g)) (ns g) = none → ∀ J, (∀ a k, ¬ (64 ≤ a ∧ a ≤ 70) → J a k = I a k) → Q (-2) (J, L, Y))
    (h1 : ∀ B : Nat → Nat, (∀ g, g < G → zg_fb (zs_wr π fr α ο md ss g) (zg_kc f 10 (ss g) (cs g)) (ns g) = some (B g)) → ∀ J, (∀ a k, ¬ (64 ≤ a ∧ a ≤ 70) → J a k = I a k) → Q (nI (zg_sm (fun g => cs g (B g)) G)) (zy_tell J (zg_rw (zh_nc (fun g => zh_wy f 10 (ss g) (pps g) (cs g) (B g)) G) (zg_sm (fun g => cs g (B g)) G)), L, Y)) :
    zx_Ci l E (d + 3) 102 [.ref 22, .ref 6] (I, L, Y) Q := by
  obtain ⟨⟨hF, hO, hG, hU⟩, hT, h62⟩ := id hZ
  have G6 := hG.1
  have hQ := zs_GT_Q hT
  obtain ⟨c5, c6, c7, c8, c9⟩ := hQ.2.1
  have n7 := (zs_Q_ne hQ).2.2.2.2 7 (by omega) (by omega)
  refine sg_102_0 hY ?_
  -- telling
  have tell : ∀ (B : Nat → Nat), (∀ g, g < G → zg_fb (zs_wr π fr α ο md ss g) (zg_kc f 10 (ss g) (cs g)) (ns g) = some (B g)) → ∀ r i, i + r = 12 → i ≤ zg_sm (fun g => cs g (B g)) G → ∀ J, (∀ a k, ¬ (64 ≤ a ∧ a ≤ 70) → J a k = I a k) → (∀ h, h < G → J 70 h = nI (zh_tk (fun g => zh_wy f 10 (ss g) (pps g) (cs g) (B g)) G i h) ∧ ∀ k, k < 12 → J (64 + h) k = nI (zh_wy f 10 (ss h) (pps h) (cs h) (B h) k)) →
      zx_To l E (d + 3) 102 60 [some (.ref 22), some (.ref 6), some (.int (nI (zg_sm (fun g => cs g (B g)) G))), some (.int (nI i)), none] [] (zy_tell J (zg_rw (zh_nc (fun g => zh_wy f 10 (ss g) (pps g) (cs g) (B g)) G) i), L, Y) (fun r M' => ∃ v, r = some (.int v) ∧ Q v M') := by
    intro B hB
    have D31 : zg_sm (fun g => cs g (B g)) G < 2 ^ 31 := by
      have : ∀ m, m ≤ G → zg_sm (fun g => cs g (B g)) m ≤ 80 * m := by
        intro m
        induction m with
        | zero => exact fun _ => Nat.le_refl _
        | succ m ih =>
          intro hm
          have ok := zg_fb_ok (W := zs_wr π fr α ο md ss m) (κ := zg_kc f 10 (ss m) (cs m)) (ns m)
          rw [hB m (by omega)] at ok
          have := (zs_GT_row hT (show m < G by omega) ok.1).2.2.2.2.2.1
          have := ih (by omega)
          rw [zg_sm]; omega
      have := this G (Nat.le_refl _)
      omega
    generalize hD : zg_sm (fun g => cs g (B g)) G = D at *
    generalize hwy : (fun g => zh_wy f 10 (ss g) (pps g) (cs g) (B g)) = wy at *
    have ewy : ∀ h k, zh_wy f 10 (ss h) (pps h) (cs h) (B h) k = wy h k := fun h k => by rw [← hwy]
    have fin := h1 B hB
    rw [hwy, hD] at fin
    intro r
    induction r with
    | zero =>
      intro i hi hiD J j1 j2
      refine sg_102_60 hY _ _ ⟨fun h => ?_, fun _ => ⟨fun _ => ⟨_, rfl, ?_⟩, fun h => absurd (by rw [show (12 : Int32) = nI 12 from rfl]; exact (nI_leI (by omega) (by omega)).mpr (by omega)) h⟩⟩
      · rw [nI_leI (by omega) (by omega)] at h
        have ei : i = D := by omega
        rw [ei]; exact ⟨_, rfl, fin J j1⟩
      · have : zg_rw (zh_nc wy G) i = zg_rw (zh_nc wy G) D := by
          unfold zg_rw
          rw [show min i 12 = 12 by omega, show min D 12 = 12 by omega]
        rw [this]; exact fin J j1
    | succ r ih =>
      intro i hi hiD J j1 j2
      refine sg_102_60 hY _ _ ⟨fun h => ?_, fun hlt => ⟨fun h => ?_, fun _ => ?_⟩⟩
      · rw [nI_leI (by omega) (by omega)] at h
        have ei : i = D := by omega
        rw [ei]; exact ⟨_, rfl, fin J j1⟩
      · rw [show (12 : Int32) = nI 12 from rfl, nI_leI (by omega) (by omega)] at h; omega
      · rw [nI_leI (by omega) (by omega)] at hlt
        have e8 : zy_tell J (zg_rw (zh_nc wy G) i) 23 8 = nI G := by rw [zy_tell_el (by omega), j1 _ _ (by omega)]; exact hU.2.2.1.1
        refine zy_104 (τ := zh_tk wy G i) (wy := wy) hY G6 e8 (fun h hh => ?_) (fun e => ⟨hY, ?_⟩) (fun g e => ⟨hY, ?_⟩)
        · have tl := zh_tk_le (wy := wy) (G := G) i h
          have := j2 h hh
          rw [zy_tell_el (by omega), zy_tell_el (by omega), this.1, this.2 _ (by omega), ewy]
          refine ⟨rfl, by omega, rfl, ?_⟩
          rw [← ewy]; exact zh_wy_lt (fun p hp => (hF.2.1 p hp).1) (Nat.le_refl _)
        · have en : zh_nc wy G i = 0 := by unfold zh_nc; rw [e]
          have et : zh_tk wy G (i + 1) = zh_tk wy G i := by rw [zh_tk, e]
          have := zy_82 (l := l) (E := E) (d := d + 2) (I := J) (L := L) (Y := Y) (Qv := fun M3 => zx_lay M3.2.2 ∧ zx_To l E (d + 3) 102 60 [some (.ref 22), some (.ref 6), some (.int (nI D)), some (.int (nI i + 1)), none] [] (M3.1, M3.2.1, M3.2.2) (fun r M' => ∃ v, r = some (.int v) ∧ Q v M')) hY (vs := zg_rw (zh_nc wy G) i) (x := 0) (by rw [zg_rw_len]; omega) ⟨hY, ?_⟩
          · exact this
          · have hs := zg_rw_s (w := zh_nc wy G) (k := i) (by omega)
            rw [en] at hs
            rw [show ([0] : List Int32) = [nI 0] from rfl, ← hs, nI_1]
            exact ih (i + 1) (by omega) (by omega) J j1 (fun h hh => by rw [et]; exact j2 h hh)
        · have ok := zg_fb_ok (W := fun g => decide (wy g (zh_tk wy G i g) ≠ 0)) (κ := fun g => wy g (zh_tk wy G i g)) G
          rw [e] at ok
          have hg := ok.1
          have en : zh_nc wy G i = wy g (zh_tk wy G i g) := by unfold zh_nc; rw [e]
          have et : zh_tk wy G (i + 1) = fun h => if h = g then zh_tk wy G i h + 1 else zh_tk wy G i h := by rw [zh_tk, e]
          dsimp only
          rw [zy_tell_u2 (by omega)]
          refine zy_82 hY (by rw [zg_rw_len]; omega) ⟨hY, ?_⟩
          have hs := zg_rw_s (w := zh_nc wy G) (k := i) (by omega)
          rw [en] at hs
          rw [← hs, nI_1]
          refine ih (i + 1) (by omega) (by omega) _ (fun a k h => by rw [zy_u2_na (by omega)]; exact j1 a k h) (fun h hh => ⟨?_, fun k hk => by rw [zy_u2_na (by omega)]; exact (j2 h hh).2 k hk⟩)
          rw [et]
          dsimp only
          by_cases z : h = g
          · rw [z, zy_u2_self, if_pos rfl]
          · rw [zy_u2_nk z, if_neg z]; exact (j2 h hh).1
  -- the groups
  have key : ∀ r g, g + r = G → ∀ (B : Nat → Nat) J, (∀ h, h < g → zg_fb (zs_wr π fr α ο md ss h) (zg_kc f 10 (ss h) (cs h)) (ns h) = some (B h)) → (∀ a k, ¬ (64 ≤ a ∧ a ≤ 70) → J a k = I a k) → (∀ h, h < g → J 70 h = 0 ∧ ∀ k, k < 12 → J (64 + h) k = nI (zh_wy f 10 (ss h) (pps h) (cs h) (B h) k)) →
      zx_To l E (d + 3) 102 4 [some (.ref 22), some (.ref 6), some (.int (nI (zg_sm (fun h => cs h (B h)) g))), some (.int (nI g)), none] [] (J, L, Y) (fun r M' => ∃ v, r = some (.int v) ∧ Q v M') := by
    intro r
    induction r with
    | zero =>
      intro g hg B J hB j1 j2
      have eg : g = G := by omega
      subst eg
      have e8 : J 23 8 = nI g := by rw [j1 _ _ (by omega)]; exact hU.2.2.1.1
      refine sg_102_4 hY _ _ ⟨fun _ => zy_81 hY ⟨hY, ?_⟩, fun h => absurd (by rw [e8]; exact (nI_leI (by omega) (by omega)).mpr (Nat.le_refl _)) h⟩
      exact tell B hB 12 0 (by omega) (Nat.zero_le _) J j1 (fun h hh => ⟨(j2 h hh).1, (j2 h hh).2⟩)
    | succ r ih =>
      intro g hg B J hB j1 j2
      have hgG : g < G := by omega
      have e8 : J 23 8 = nI G := by rw [j1 _ _ (by omega)]; exact hU.2.2.1.1
      have jZ : zs_Z f π fr N G b lg J L Y q R Z sb mk at_ ns ss pps cs := zs_Z_cong hZ (fun a k h => j1 a k (by omega)) (fun _ _ _ => rfl)
      refine sg_102_4 hY _ _ ⟨fun h => ?_, fun _ => ?_⟩
      · rw [e8, nI_leI (by omega) (by omega)] at h; omega
      refine zy_101 (lf := false) hY jZ hW hgG rfl ⟨hY, ?_⟩
      rw [show zs_ka f ss cs false g = zg_kc f 10 (ss g) (cs g) from if_neg (by decide)]
      have ok := zg_fb_ok (W := zs_wr π fr α ο md ss g) (κ := zg_kc f 10 (ss g) (cs g)) (ns g)
      cases e : zg_fb (zs_wr π fr α ο md ss g) (zg_kc f 10 (ss g) (cs g)) (ns g) with
      | none => exact ⟨fun z => absurd z (by show ¬ (0 : Int32) ≤ -1; decide), fun _ => ⟨_, rfl, h2 g hgG e J j1⟩⟩
      | some b0 =>
        rw [e] at ok
        obtain ⟨⟨r0, r0', r0''⟩, -, -, r3, r4, r5, r6⟩ := zs_GT_row hT hgG ok.1
        refine ⟨fun _ => ⟨q 7, hQ.1 7 (by omega) (by omega), (zs_ce_is c7).1, ?_, ?_⟩, fun z => absurd (nI_pos' (by omega)) z⟩
        · show vp_in (nI (at_ g + b0)) (zx_ln (J, L, Y) (q 7))
          rw [(zs_ce_is c7).2]; exact vp_in_nI (by omega) (by omega)
        · refine zy_103 (d := d) hY jZ hgG ok.1 (fun J2 g1 g2 g3 => ⟨hY, ?_⟩)
          show zx_To l E (d + 3) 102 4 [some (.ref 22), some (.ref 6), some (.int (nI (zg_sm (fun h => cs h (B h)) g) + J (q 7) (nI (at_ g + b0)).toNatClampNeg)), some (.int (nI g + 1)), none] [] (J2, L, Y) _
          rw [nI_clamp (by omega), j1 (q 7) _ (by omega), r3, nI_add, nI_1]
          have := ih (g + 1) (by omega) (fun h => if h = g then b0 else B h) J2 (fun h hh => by
            by_cases z : h = g
            · rw [if_pos z, z]; exact e
            · rw [if_neg z]; exact hB h (by omega)) (fun a k h => by rw [g1 a k (by omega) (by omega)]; exact j1 a k h) (fun h hh => by
            by_cases z : h = g
            · rw [if_pos z, z]; exact ⟨g2, g3⟩
            · rw [if_neg z, g1 70 h (by omega) (by omega)]
              exact ⟨(j2 h (by omega)).1, fun k hk => by rw [g1 (64 + h) k (by omega) (by omega)]; exact (j2 h (by omega)).2 k hk⟩)
          rw [zg_sm, if_pos rfl] at this
          have s1 : zg_sm (fun h => cs h (if h = g then b0 else B h)) g = zg_sm (fun h => cs h (B h)) g := zg_sm_cong (fun h hh => by rw [if_neg (by omega)])
          rw [s1] at this
          exact this
  exact key G 0 (by omega) (fun _ => 0) I (fun h hh => by omega) (fun _ _ _ => rfl) (fun h hh => by omega)
end YG
