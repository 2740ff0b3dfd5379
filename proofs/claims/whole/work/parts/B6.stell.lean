/-! ===== search: the best rows of the class ===== -/
/-- a search as it lies, with all that goes with it -/
def zs_Z (f π fr : Nat → Nat) (N G b lg : Nat) (I : Nat → Nat → Int32) (L : Nat → Nat → Int64) (Y : zx_Y) (q : Nat → Nat) (R Z sb mk : Nat) (at_ ns : Nat → Nat) (ss pps cs : Nat → Nat → Nat) : Prop :=
  (zs_F f 10 ∧ zs_Om f 10 N π ∧ zs_Gr f π N G fr ∧ zs_U I L f N π G fr lg) ∧ zs_GT f π fr 10 N G b G I L Y q R Z sb mk at_ ns ss pps cs ∧ ∀ g, g ≤ G → I 62 g = nI (at_ g)
theorem zs_sh_in {f π fr : Nat → Nat} {N G g : Nat} (hO : zs_Om f 10 N π) (hG : zs_Gr f π N G fr) (hg : g < G) : zs_c 10 (zg_bt (zs_sh f N π (fr g) 1)) = zs_c 10 (zg_bt (zs_in fr g)) := by
  have h4 := hG.2.2.2.1 g hg
  have frN : fr (g + 1) ≤ N := by have := zs_Gr_mono hG (g := g + 1) (k := G) (by omega) (Nat.le_refl _); rw [hG.2.2.1] at this; exact this
  refine zs_c_cong (fun i hi => ?_)
  rw [zg_bt_b, zg_bt_b]
  congr 1
  refine zb_ext ?_
  unfold zs_sh
  rw [Bool.and_eq_true, Bool.and_eq_true, decide_eq_true_eq, decide_eq_true_eq, decide_eq_true_eq, zs_in_iff]
  have eg : zs_gi fr G (fr g) = g := zs_gi_eq hG hg (Nat.le_refl _) h4
  constructor
  · rintro ⟨h1, h2, h3⟩
    have := (zs_gi_1 hG h1 (show fr g < N by omega)).mp h3
    have ok := zs_gi_ok hG h1
    rw [this, eg] at ok
    exact ok.2
  · rintro ⟨h1, h2⟩
    have hiN : i < N := by omega
    exact ⟨hiN, zs_len1 hO hiN, (zs_gi_1 hG hiN (show fr g < N by omega)).mpr (by rw [eg]; exact zs_gi_eq hG hg h1 h2)⟩
section YD
variable {l : Launch} {E : zx_E} {d : Nat} {I : Nat → Nat → Int32} {L : Nat → Nat → Int64} {Y : zx_Y} {Qo : Option Value → zx_M → Prop} {Q : Int32 → zx_M → Prop} {Ql : Int64 → zx_M → Prop} {Qv : zx_M → Prop} {f π fr q : Nat → Nat} {P N G g b R Z sb mk lg : Nat} {at_ ns : Nat → Nat} {ss pps cs : Nat → Nat → Nat} {α ο : Nat → Nat} {md : Bool}
/-- a row of the group is wanted -/
def zs_wr (π fr : Nat → Nat) (α ο : Nat → Nat) (md : Bool) (ss : Nat → Nat → Nat) (g j : Nat) : Bool := zs_wb α ο md (zs_in fr g) (zs_dl π fr g (ss g j))
/-- by calls, or by losses first -/
def zs_ka (f : Nat → Nat) (ss cs : Nat → Nat → Nat) (lf : Bool) (g : Nat) : Nat → Nat := if lf then zg_kl f 10 (ss g) (cs g) else zg_kc f 10 (ss g) (cs g)
theorem zs_Z_dl (hZ : zs_Z f π fr N G b lg I L Y q R Z sb mk at_ ns ss pps cs) (hg : g < G) {j : Nat} (hj : j < ns g) : ∀ i, i < 10 → zs_dl π fr g (ss g j) i ≤ 8 :=
  zs_dl_lt hZ.1.1 hZ.1.2.1 hZ.1.2.2.1 hg ((hZ.2.1.2.2 g hg).1 j hj).1.1
theorem zs_Z_at (hZ : zs_Z f π fr N G b lg I L Y q R Z sb mk at_ ns ss pps cs) (hg : g < G) : at_ (g + 1) = at_ g + ns g ∧ at_ (g + 1) ≤ at_ G ∧ at_ G ≤ 20006 := by
  obtain ⟨⟨rw, pa, ca, lo, hD, -⟩, ⟨h2, h3, -⟩, -⟩ := hZ.2.1
  exact ⟨h3 g hg, zs_at_mono h3 (by omega), by have := hD.2.2.1; have := hD.1.2.2.2.2.1; omega⟩
theorem zy_101 (hY : zx_lay Y) (hZ : zs_Z f π fr N G b lg I L Y q R Z sb mk at_ ns ss pps cs) (hW : zs_Wm L α ο md) (hg : g < G) {lf : Bool} {x2 : Int32} (hx : x2 = if lf then 1 else 0)
    (hq : Q (zs_ob (at_ g) (zg_fb (zs_wr π fr α ο md ss g) (zs_ka f ss cs lf g) (ns g))) (I, L, Y)) : zx_Ci l E (d + 1) 101 [.ref 22, .int (nI g), .int x2] (I, L, Y) Q := by
  obtain ⟨⟨hF, hO, hG, hU⟩, hT, h62⟩ := id hZ
  obtain ⟨z1, z2, z3⟩ := zs_Z_at hZ hg
  have G6 := hG.1
  have N10 := hO.1
  have h4 := hG.2.2.2.1 g hg
  have frN : fr (g + 1) ≤ N := by have := zs_Gr_mono hG (g := g + 1) (k := G) (by omega) (Nat.le_refl _); rw [hG.2.2.1] at this; exact this
  have hQ := zs_GT_Q hT
  obtain ⟨c5, c6, c7, c8, c9⟩ := hQ.2.1
  have cm := zq_cm (hT.2.2 g hg).2
  have gin : vp_in (nI g) 7 := vp_in_nI (by omega) (by omega)
  have e60 : I 60 (nI g).toNatClampNeg = nI (fr g) := by rw [nI_clamp (by omega)]; exact hU.2.2.1.2 g (by omega)
  have e39 : L (39 + fr g) 1 = nL (zs_c 10 (zg_bt (zs_in fr g))) := by rw [(hU.2.1 (fr g) (by omega)).2 1 (Nat.le_refl _) (zs_len1 hO (by omega)), zs_sh_in hO hG hg]
  have e62 : I 62 (nI g + 1).toNatClampNeg = nI (at_ (g + 1)) := by rw [nI_1, nI_clamp (by omega)]; exact h62 (g + 1) (by omega)
  have gin1 : vp_in (nI g + 1) 7 := by rw [nI_1]; exact vp_in_nI (by omega) (by omega)
  have rin : ∀ {kk kd j}, zs_ce Y (q kk) kd R → j < ns g → vp_in (nI (at_ g + j)) (zx_ln (I, L, Y) (q kk)) := fun {kk kd j} hc hj => by
    have := (zs_GT_row hT hg hj).1
    rw [(zs_ce_is hc).2]; exact vp_in_nI (by omega) (by omega)
  refine sg_101_0 hY _ _ ⟨gin, by rw [e60]; exact vp_in_nI (by omega) (by omega), 39 + fr g, by rw [e60, nI_clamp (by omega)]; exact (zs_27 hY (by omega)).2.1, (zs_28 hY (by omega)).2.1.1, by rw [(zs_28 hY (by omega)).2.1.2]; exact vp_in_nI (n := 1) (by omega) (by omega), gin, ?_⟩
  rw [e39, nI_clamp (by omega), h62 g (by omega)]
  have key : ∀ r i, i + r = ns g → zx_To l E (d + 1) 101 31 [some (.ref 22), some (.int (nI g)), some (.int x2), some (.long (nL (zs_c 10 (zg_bt (zs_in fr g))))), none, some (.int (zs_ob (at_ g) (zg_fb (zs_wr π fr α ο md ss g) (zs_ka f ss cs lf g) i))), some (.int (nI (at_ g + i)))] [] (I, L, Y) (fun r M' => ∃ v, r = some (.int v) ∧ Q v M') := by
    intro r
    induction r with
    | zero =>
      intro i hi
      have ei : i = ns g := by omega
      subst ei
      refine sg_101_31 hY _ _ _ _ _ ⟨gin1, fun _ => sg_101_120 hY _ ⟨_, rfl, hq⟩, fun h => absurd ?_ h⟩
      rw [e62]; exact (nI_leI (by omega) (by omega)).mpr (by omega)
    | succ r ih =>
      intro i hi
      have hin : i < ns g := by omega
      obtain ⟨⟨r0, r0', r0''⟩, r1, r2, r3, r4, r5, r6⟩ := zs_GT_row hT hg hin
      have ok := zg_fb_ok (W := zs_wr π fr α ο md ss g) (κ := zs_ka f ss cs lf g) i
      have ihn := ih (i + 1) (by omega)
      rw [zg_fb] at ihn
      have next : ∀ o : Option Nat, zx_To l E (d + 1) 101 31 [some (.ref 22), some (.int (nI g)), some (.int x2), some (.long (nL (zs_c 10 (zg_bt (zs_in fr g))))), none, some (.int (zs_ob (at_ g) o)), some (.int (nI (at_ g + (i + 1))))] [] (I, L, Y) (fun r M' => ∃ v, r = some (.int v) ∧ Q v M') → zx_To l E (d + 1) 101 114 [some (.ref 22), some (.int (nI g)), some (.int x2), some (.long (nL (zs_c 10 (zg_bt (zs_in fr g))))), none, some (.int (zs_ob (at_ g) o)), some (.int (nI (at_ g + i)))] [] (I, L, Y) (fun r M' => ∃ v, r = some (.int v) ∧ Q v M') := fun o h => by
        refine sg_101_114 hY _ _ _ _ _ ?_
        rw [nI_1, Nat.add_assoc]; exact h
      -- is it wanted, is it better
      have body : (∀ B, zg_fb (zs_wr π fr α ο md ss g) (zs_ka f ss cs lf g) i = some B → (lf = false → cs g i ≤ cs g B)) → zx_To l E (d + 1) 101 73 [some (.ref 22), some (.int (nI g)), some (.int x2), some (.long (nL (zs_c 10 (zg_bt (zs_in fr g))))), none, some (.int (zs_ob (at_ g) (zg_fb (zs_wr π fr α ο md ss g) (zs_ka f ss cs lf g) i))), some (.int (nI (at_ g + i)))] [] (I, L, Y) (fun r M' => ∃ v, r = some (.int v) ∧ Q v M') := fun hcB => by
        refine sg_101_73 hY _ _ _ _ _ ⟨q 5, hQ.1 5 (by omega) (by omega), (zs_ce_is c5).1, rin c5 hin, ?_⟩
        rw [nI_clamp (by omega), r1]
        refine zy_100 hY hW (by omega) (zs_Z_dl hZ hg hin) ⟨hY, fun z => next _ ?_, fun z => ?_⟩
        · rw [zy_b0] at z
          have z : zs_wr π fr α ο md ss g i = false := z
          rw [z, if_neg (by decide)] at ihn; exact ihn
        · rw [zy_b1] at z
          have z : zs_wr π fr α ο md ss g i = true := z
          rw [z, if_pos rfl] at ihn
          cases e : zg_fb (zs_wr π fr α ο md ss g) (zs_ka f ss cs lf g) i with
          | none =>
            rw [e] at ihn
            exact ⟨fun _ => sg_101_110 hY _ _ _ _ (next (some i) ihn), fun y => absurd (by decide : (-1 : Int32) < 0) y⟩
          | some B =>
            rw [e] at ihn ok
            have hB := ok.1
            obtain ⟨-, -, -, b3, b4, b5, b6⟩ := zs_GT_row hT hg (show B < ns g by omega)
            have bc := cm i hin B (by omega)
            refine ⟨fun y => absurd y (nI_pos (by omega)), fun _ => ⟨q 8, hQ.1 8 (by omega) (by omega), (zs_ce_is c8).1, rin c8 hin, q 8, hQ.1 8 (by omega) (by omega), (zs_ce_is c8).1, rin c8 (by omega), ?_⟩⟩
            dsimp only
            rw [show (zs_ob (at_ g) (some B)).toNatClampNeg = at_ g + B from nI_clamp (by omega), b4, r4, nI_leI (by omega) (by omega)]
            have keq : (zs_ka f ss cs lf g i < zs_ka f ss cs lf g B) ↔ zg_ls f 10 (ss g i) < zg_ls f 10 (ss g B) := by
              unfold zs_ka
              cases hl : lf with
              | true =>
                rw [if_pos rfl]
                unfold zg_kl
                omega
              | false =>
                have := hcB B e hl
                rw [if_neg (by decide)]
                unfold zg_kc
                omega
            refine ⟨fun y => next (some B) ?_, fun y => sg_101_110 hY _ _ _ _ (next (some i) ?_)⟩
            · dsimp only at ihn
              rw [if_neg (by rw [keq]; omega)] at ihn; exact ihn
            · dsimp only at ihn
              rw [if_pos (by rw [keq]; omega)] at ihn; exact ihn
      refine sg_101_31 hY _ _ _ _ _ ⟨gin1, fun h => ?_, fun _ => ⟨fun z => body (fun B e => ?_), fun z => ⟨fun z2 => body (fun B e hl => ?_), fun z2 => ?_⟩⟩⟩
      · rw [e62, nI_leI (by omega) (by omega)] at h; omega
      · rw [e] at z ok
        have hB := ok.1
        exact absurd z (nI_pos (by omega))
      · rw [hx, hl] at z2; exact absurd rfl z2
      · cases e : zg_fb (zs_wr π fr α ο md ss g) (zs_ka f ss cs lf g) i with
        | none => rw [e] at z; exact absurd (by decide : (-1 : Int32) < 0) z
        | some B =>
          rw [e] at ok
          obtain ⟨hB, -, -, -⟩ := ok
          obtain ⟨-, -, -, b3, b4, b5, b6⟩ := zs_GT_row hT hg (show B < ns g by omega)
          have hlf : lf = false := by
            cases hl : lf with
            | false => rfl
            | true => rw [hx, hl] at z2; exact absurd z2 (by decide)
          refine ⟨q 7, hQ.1 7 (by omega) (by omega), (zs_ce_is c7).1, rin c7 hin, q 7, hQ.1 7 (by omega) (by omega), (zs_ce_is c7).1, rin c7 (by omega), ?_⟩
          show (I (q 7) (nI (at_ g + i)).toNatClampNeg ≤ I (q 7) (nI (at_ g + B)).toNatClampNeg → _) ∧ (¬ I (q 7) (nI (at_ g + i)).toNatClampNeg ≤ I (q 7) (nI (at_ g + B)).toNatClampNeg → _)
          rw [nI_clamp (by omega), nI_clamp (by omega), b3, r3, nI_leI (by omega) (by omega)]
          refine ⟨fun y => ?_, fun y => sg_101_120 hY _ ⟨_, rfl, ?_⟩⟩
          · rw [e] at body
            exact body (fun B' e' _ => by cases e'; exact y)
          · have := zg_fb_stay e (ns g) (by omega) (fun k k1 k2 _ => by
              have c1 := cm k k2 i k1
              have := zs_ls80 hZ.1.1 (ss g B)
              unfold zs_ka
              rw [hlf, if_neg (by decide)]
              unfold zg_kc
              omega)
            rw [this] at hq
            exact hq
  exact key (ns g) 0 (by omega)
theorem zy_105 (hY : zx_lay Y) (hZ : zs_Z f π fr N G b lg I L Y q R Z sb mk at_ ns ss pps cs) (hW : zs_Wm L α ο md)
    (h2 : ∀ g, g < G → zg_fb (zs_wr π fr α ο md ss g) (zg_kl f 10 (ss g) (cs g)) (ns g) = none → Q (-2) (I, L, Y))
    (h1 : ∀ B : Nat → Nat, (∀ g, g < G → zg_fb (zs_wr π fr α ο md ss g) (zg_kl f 10 (ss g) (cs g)) (ns g) = some (B g)) → Q (nI (zg_sm (fun g => zg_ls f 10 (ss g (B g))) G)) (zy_tell I [nI (zg_sm (fun g => cs g (B g)) G)], L, Y)) :
    zx_Ci l E (d + 2) 105 [.ref 22, .ref 6] (I, L, Y) Q := by
  obtain ⟨⟨hF, hO, hG, hU⟩, hT, h62⟩ := id hZ
  have G6 := hG.1
  have hQ := zs_GT_Q hT
  obtain ⟨c5, c6, c7, c8, c9⟩ := hQ.2.1
  refine sg_105_0 hY ?_
  have key : ∀ r g, g + r = G → ∀ B : Nat → Nat, (∀ h, h < g → zg_fb (zs_wr π fr α ο md ss h) (zg_kl f 10 (ss h) (cs h)) (ns h) = some (B h)) → zx_To l E (d + 2) 105 7 [some (.ref 22), some (.ref 6), some (.int (nI (zg_sm (fun h => zg_ls f 10 (ss h (B h))) g))), some (.int (nI (zg_sm (fun h => cs h (B h)) g))), some (.int (nI g)), none] [] (I, L, Y) (fun r M' => ∃ v, r = some (.int v) ∧ Q v M') := by
    intro r
    induction r with
    | zero =>
      intro g hg B hB
      have eg : g = G := by omega
      subst eg
      refine sg_105_7 hY _ _ _ ⟨fun _ => zy_81 hY ⟨hY, zy_82 (vs := []) hY (by decide) ⟨hY, _, rfl, h1 B hB⟩⟩, fun h => absurd (by rw [hU.2.2.1.1]; exact (nI_leI (by omega) (by omega)).mpr (Nat.le_refl _)) h⟩
    | succ r ih =>
      intro g hg B hB
      have hgG : g < G := by omega
      refine sg_105_7 hY _ _ _ ⟨fun h => ?_, fun _ => ?_⟩
      · rw [hU.2.2.1.1, nI_leI (by omega) (by omega)] at h; omega
      refine zy_101 (lf := true) hY hZ hW hgG rfl ⟨hY, ?_⟩
      rw [show zs_ka f ss cs true g = zg_kl f 10 (ss g) (cs g) from if_pos rfl]
      have ok := zg_fb_ok (W := zs_wr π fr α ο md ss g) (κ := zg_kl f 10 (ss g) (cs g)) (ns g)
      cases e : zg_fb (zs_wr π fr α ο md ss g) (zg_kl f 10 (ss g) (cs g)) (ns g) with
      | none => exact ⟨fun z => absurd z (by show ¬ (0 : Int32) ≤ -1; decide), fun _ => ⟨_, rfl, h2 g hgG e⟩⟩
      | some b0 =>
        rw [e] at ok
        obtain ⟨⟨r0, r0', r0''⟩, -, -, r3, r4, r5, r6⟩ := zs_GT_row hT hgG ok.1
        refine ⟨fun _ => ⟨q 8, hQ.1 8 (by omega) (by omega), (zs_ce_is c8).1, ?_, q 7, hQ.1 7 (by omega) (by omega), (zs_ce_is c7).1, ?_, ?_⟩, fun z => absurd (nI_pos' (by omega)) z⟩
        · show vp_in (nI (at_ g + b0)) (zx_ln (I, L, Y) (q 8))
          rw [(zs_ce_is c8).2]; exact vp_in_nI (by omega) (by omega)
        · show vp_in (nI (at_ g + b0)) (zx_ln (I, L, Y) (q 7))
          rw [(zs_ce_is c7).2]; exact vp_in_nI (by omega) (by omega)
        · show zx_To l E (d + 2) 105 7 [some (.ref 22), some (.ref 6), some (.int (nI (zg_sm (fun h => zg_ls f 10 (ss h (B h))) g) + I (q 8) (nI (at_ g + b0)).toNatClampNeg)), some (.int (nI (zg_sm (fun h => cs h (B h)) g) + I (q 7) (nI (at_ g + b0)).toNatClampNeg)), some (.int (nI g + 1)), none] [] (I, L, Y) _
          rw [nI_clamp (by omega), r3, r4, nI_add, nI_add, nI_1]
          have := ih (g + 1) (by omega) (fun h => if h = g then b0 else B h) (fun h hh => by
            by_cases z : h = g
            · rw [if_pos z, z]; exact e
            · rw [if_neg z]; exact hB h (by omega))
          rw [zg_sm, zg_sm, if_pos rfl] at this
          have s1 : zg_sm (fun h => zg_ls f 10 (ss h (if h = g then b0 else B h))) g = zg_sm (fun h => zg_ls f 10 (ss h (B h))) g := zg_sm_cong (fun h hh => by rw [if_neg (by omega)])
          have s2 : zg_sm (fun h => cs h (if h = g then b0 else B h)) g = zg_sm (fun h => cs h (B h)) g := zg_sm_cong (fun h hh => by rw [if_neg (by omega)])
          rw [s1, s2] at this
          exact this
  exact key G 0 (by omega) (fun _ => 0) (fun h hh => by omega)
end YD
