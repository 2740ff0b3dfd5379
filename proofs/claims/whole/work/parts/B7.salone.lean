/-! ===== search: alone and comes of the class ===== -/
section YE
variable {l : Launch} {E : zx_E} {d : Nat} {I : Nat → Nat → Int32} {L : Nat → Nat → Int64} {Y : zx_Y} {Qo : Option Value → zx_M → Prop} {Q : Int32 → zx_M → Prop} {Ql : Int64 → zx_M → Prop} {Qv : zx_M → Prop} {f π fr q : Nat → Nat} {P N G g b R Z sb mk lg : Nat} {at_ ns : Nat → Nat} {ss pps cs : Nat → Nat → Nat} {α ο : Nat → Nat} {md : Bool}
theorem zy_106 (hY : zx_lay Y) (hZ : zs_Z f π fr N G b lg I L Y q R Z sb mk at_ ns ss pps cs) {p m : Nat} (hp : p < 10) (hm : m ≤ 8)
    (h2 : f p = 0 ∨ zy_len (f p) < m → Q (-2) (I, L, Y))
    (h1 : ∀ g, g < G → zs_g f π N fr G p = g → m ≤ zy_len (f p) → match zg_fb (fun j => decide (zg_d (ss g j) p = zy_len (f p) - m)) (zg_kl f 10 (ss g) (cs g)) (ns g) with
      | none => Q (-2) (I, L, Y)
      | some B => Q (nI (zg_ls f 10 (ss g B)) - nI m) (zy_tell I [nI (cs g B)], L, Y)) :
    zx_Ci l E (d + 1) 106 [.ref 22, .int (nI p), .int (nI m), .ref 6] (I, L, Y) Q := by
  obtain ⟨⟨hF, hO, hG, hU⟩, hT, h62⟩ := id hZ
  have G6 := hG.1
  have N10 := hO.1
  have hQ := zs_GT_Q hT
  obtain ⟨c5, c6, c7, c8, c9⟩ := hQ.2.1
  refine sg_106_0 hY _ _ (zy_29 hY N10 hU.1 (fun i hi => (hO.2.1 i hi).1) hp (fun i hi e => ⟨hY, fun z => absurd z (nI_pos (by omega)), fun _ => ⟨vp_in_nI (by omega) (by omega), ?_⟩⟩) (fun hno => ⟨hY, fun _ => sg_106_29 hY ⟨_, rfl, h2 (Or.inl ?_)⟩, fun z => absurd (by decide : (-1 : Int32) < 0) z⟩))
  · have l8 := zs_8 hF hO i hi
    have e26 : I 26 (nI i).toNatClampNeg = nI (zy_len (f p)) := by rw [nI_clamp (by omega), (hU.2.1 i hi).1.1, e]
    rw [e] at l8
    dsimp only
    rw [e26, nI_leI (by omega) (by omega)]
    refine ⟨fun hle => ?_, fun hgt => sg_106_29 hY ⟨_, rfl, h2 (Or.inr (by omega))⟩⟩
    obtain ⟨g1, g2, g3⟩ := zs_gi_ok hG hi
    have eg : zs_g f π N fr G p = zs_gi fr G i := by rw [← e]; exact zs_g_at hO hi
    refine zy_30 hY N10 hG hU.2.2.1.1 hU.2.2.1.2 hi ⟨hY, vp_in_nI (by omega) (by omega), vp_in_nI (by omega) (by omega), ?_⟩
    generalize hg : zs_gi fr G i = g at *
    have fin := h1 g g1 eg hle
    obtain ⟨z1, z2, z3⟩ := zs_Z_at hZ g1
    have cm := zq_cm (hT.2.2 g g1).2
    have hin' : zs_in fr g i = true := zs_in_iff.mpr ⟨g2, g3⟩
    dsimp only
    rw [e26, zy_sub_nI hle (by omega), nI_clamp (n := g) (by omega), h62 g (by omega)]
    have e62 : I 62 (nI g + 1).toNatClampNeg = nI (at_ (g + 1)) := by rw [nI_1, nI_clamp (by omega)]; exact h62 (g + 1) (by omega)
    have gin1 : vp_in (nI g + 1) 7 := by rw [nI_1]; exact vp_in_nI (by omega) (by omega)
    have rin : ∀ {I' : Nat → Nat → Int32} {kk kd j}, zs_ce Y (q kk) kd R → j < ns g → vp_in (nI (at_ g + j)) (zx_ln (I', L, Y) (q kk)) := fun {I' kk kd j} hc hj => by
      have := (zs_GT_row hT g1 hj).1
      rw [(zs_ce_is hc).2]; exact vp_in_nI (by omega) (by omega)
    have key : ∀ r j, j + r = ns g → zx_To l E (d + 1) 106 69 [some (.ref 22), none, some (.int (nI m)), some (.ref 6), some (.int (nI i)), some (.int (nI g)), some (.int (nI (zy_len (f p) - m))), some (.int (zs_ob (at_ g) (zg_fb (fun j => decide (zg_d (ss g j) p = zy_len (f p) - m)) (zg_kl f 10 (ss g) (cs g)) j))), some (.int (nI (at_ g + j))), none] [] (I, L, Y) (fun r M' => ∃ v, r = some (.int v) ∧ Q v M') := by
      intro r
      induction r with
      | zero =>
        intro j hj
        have ej : j = ns g := by omega
        subst ej
        refine sg_106_69 hY _ _ _ _ _ _ ⟨gin1, fun _ => ?_, fun h => absurd ?_ h⟩
        · have ok := zg_fb_ok (W := fun j => decide (zg_d (ss g j) p = zy_len (f p) - m)) (κ := zg_kl f 10 (ss g) (cs g)) (ns g)
          cases e3 : zg_fb (fun j => decide (zg_d (ss g j) p = zy_len (f p) - m)) (zg_kl f 10 (ss g) (cs g)) (ns g) with
          | none =>
            rw [e3] at fin
            exact ⟨fun z => absurd z (by show ¬ (0 : Int32) ≤ -1; decide), fun _ => ⟨_, rfl, fin⟩⟩
          | some B =>
            rw [e3] at fin ok
            obtain ⟨⟨r0, r0', r0''⟩, -, -, r3, r4, r5, r6⟩ := zs_GT_row hT g1 ok.1
            have nq := (zs_Q_ne hQ).2.2.2.2
            have q7 := nq 7 (by omega) (by omega)
            have q8 := nq 8 (by omega) (by omega)
            have cB : (zs_ob (at_ g) (some B)).toNatClampNeg = at_ g + B := nI_clamp (by omega)
            refine ⟨fun _ => zy_81 hY ⟨hY, q 7, hQ.1 7 (by omega) (by omega), (zs_ce_is c7).1, rin c7 ok.1, ?_⟩, fun z => absurd (nI_pos' (by omega)) z⟩
            dsimp only
            rw [cB, zy_tell_el (by omega), r3]
            refine zy_82 (vs := []) hY (by decide) ⟨hY, q 8, hQ.1 8 (by omega) (by omega), (zs_ce_is c8).1, rin c8 ok.1, _, rfl, ?_⟩
            dsimp only
            rw [zy_tell_el (by omega), r4]
            exact fin
        · rw [e62]; exact (nI_leI (by omega) (by omega)).mpr (by omega)
      | succ r ih =>
        intro j hj
        have hjn : j < ns g := by omega
        obtain ⟨⟨r0, r0', r0''⟩, r1, r2, r3, r4, r5, r6⟩ := zs_GT_row hT g1 hjn
        have ok := zg_fb_ok (W := fun j => decide (zg_d (ss g j) p = zy_len (f p) - m)) (κ := zg_kl f 10 (ss g) (cs g)) j
        have ihn := ih (j + 1) (by omega)
        rw [zg_fb] at ihn
        have next : ∀ o : Option Nat, zx_To l E (d + 1) 106 69 [some (.ref 22), none, some (.int (nI m)), some (.ref 6), some (.int (nI i)), some (.int (nI g)), some (.int (nI (zy_len (f p) - m))), some (.int (zs_ob (at_ g) o)), some (.int (nI (at_ g + (j + 1)))), none] [] (I, L, Y) (fun r M' => ∃ v, r = some (.int v) ∧ Q v M') → zx_To l E (d + 1) 106 144 [some (.ref 22), none, some (.int (nI m)), some (.ref 6), some (.int (nI i)), some (.int (nI g)), some (.int (nI (zy_len (f p) - m))), some (.int (zs_ob (at_ g) o)), some (.int (nI (at_ g + j))), none] [] (I, L, Y) (fun r M' => ∃ v, r = some (.int v) ∧ Q v M') := fun o h => by
          refine sg_106_144 hY _ _ _ _ _ _ ?_
          rw [nI_1, Nat.add_assoc]; exact h
        have dl8 := zs_Z_dl hZ g1 hjn
        have dle : zs_dl π fr g (ss g j) i = zg_d (ss g j) p := by unfold zs_dl; rw [hin', if_pos rfl, e]
        have d8 : zg_d (ss g j) p ≤ 8 := by rw [← dle]; exact dl8 i (by omega)
        have eL : (nI (zy_len (f p) - m)).toInt64 = nL (zy_len (f p) - m) := by
          have : ∀ a : Fin 9, (nI a.1).toInt64 = nL a.1 := by decide
          exact this ⟨_, by omega⟩
        refine sg_106_69 hY _ _ _ _ _ _ ⟨gin1, fun h => ?_, fun _ => ⟨q 5, hQ.1 5 (by omega) (by omega), (zs_ce_is c5).1, rin c5 hjn, ?_⟩⟩
        · rw [e62, nI_leI (by omega) (by omega)] at h; omega
        rw [nI_clamp (by omega), r1, zs_digL (by omega) (fun x hx => by have := dl8 x hx; omega) (show i < 10 by omega), dle, eL, nL_cmp (by omega) (by omega)]
        refine ⟨fun z => sg_106_111 hY _ _ _ _ _ _ _ ⟨fun _ => next _ ?_, fun y => absurd rfl y⟩, fun z => sg_106_111 hY _ _ _ _ _ _ _ ⟨fun y => absurd y (by decide), fun _ => ?_⟩⟩
        · rw [decide_eq_false z, if_neg (by decide)] at ihn; exact ihn
        · rw [decide_eq_true z, if_pos rfl] at ihn
          cases e3 : zg_fb (fun j => decide (zg_d (ss g j) p = zy_len (f p) - m)) (zg_kl f 10 (ss g) (cs g)) j with
          | none =>
            rw [e3] at ihn
            exact ⟨fun _ => sg_106_140 hY _ _ _ _ _ (next (some j) ihn), fun y => absurd (by decide : (-1 : Int32) < 0) y⟩
          | some B =>
            rw [e3] at ihn ok
            have hB := ok.1
            obtain ⟨-, -, -, b3, b4, b5, b6⟩ := zs_GT_row hT g1 (show B < ns g by omega)
            have bc := cm j hjn B (by omega)
            refine ⟨fun y => absurd y (nI_pos (by omega)), fun _ => ⟨q 8, hQ.1 8 (by omega) (by omega), (zs_ce_is c8).1, rin c8 hjn, q 8, hQ.1 8 (by omega) (by omega), (zs_ce_is c8).1, rin c8 (by omega), ?_⟩⟩
            rw [show (zs_ob (at_ g) (some B)).toNatClampNeg = at_ g + B from nI_clamp (by omega), nI_clamp (by omega), b4, r4, nI_leI (by omega) (by omega)]
            have keq : (zg_kl f 10 (ss g) (cs g) j < zg_kl f 10 (ss g) (cs g) B) ↔ zg_ls f 10 (ss g j) < zg_ls f 10 (ss g B) := by
              unfold zg_kl
              omega
            refine ⟨fun y => next (some B) ?_, fun y => sg_106_140 hY _ _ _ _ _ (next (some j) ?_)⟩
            · dsimp only at ihn
              rw [if_neg (by rw [keq]; omega)] at ihn; exact ihn
            · dsimp only at ihn
              rw [if_pos (by rw [keq]; omega)] at ihn; exact ihn
    exact key (ns g) 0 (by omega)
  · by_cases w : f p = 0
    · exact w
    · obtain ⟨i, i1, i2⟩ := hO.2.2.2.1 p hp w
      exact absurd i2 (hno i i1)
/-- how many calls to just these letters -/
theorem zy_107 (hY : zx_lay Y) (hZ : zs_Z f π fr N G b lg I L Y q R Z sb mk at_ ns ss pps cs) {y : Nat} (hy : y < 2 ^ 63)
    (h2 : ∀ g, g < G → (∀ j, j < ns g → zs_r (g + 1) (zs_dl π fr g (ss g j)) ≠ zs_r (g + 1) (zs_dl π fr g y)) → Q (-2) (I, L, Y))
    (h1 : ∀ B : Nat → Nat, (∀ g, g < G → B g < ns g ∧ zs_r (g + 1) (zs_dl π fr g (ss g (B g))) = zs_r (g + 1) (zs_dl π fr g y)) → Q (nI (zg_sm (fun g => cs g (B g)) G)) (I, L, Y)) :
    zx_Ci l E (d + 2) 107 [.ref 22, .long (nL y)] (I, L, Y) Q := by
  obtain ⟨⟨hF, hO, hG, hU⟩, hT, h62⟩ := id hZ
  have G6 := hG.1
  have N10 := hO.1
  have frN : ∀ g, g ≤ G → fr g ≤ N := fun g hg => by have := zs_Gr_mono hG hg (Nat.le_refl _); rw [hG.2.2.1] at this; exact this
  obtain ⟨⟨rw, pa, ca, lo, hD, hrw⟩, ⟨t2, t3, -⟩, t5⟩ := id hT
  have hQ := hD.1
  obtain ⟨c5, c6, c7, c8, c9⟩ := hQ.2.1
  have Z6 := hQ.2.2.2.2.2
  have R6 := hQ.2.2.2.2.1
  obtain ⟨⟨hd10, hd11, hd12⟩, s1, s2, s3, s4⟩ := hD.2.1
  obtain ⟨sb1, sb2⟩ := zs_sb s1 s2
  have dl16 : ∀ g i, zs_dl π fr g y i < 16 := fun g i => by
    unfold zs_dl
    have := zg_d_lt (s := y) (p := π i)
    split <;> omega
  refine sg_107_0 hY _ ?_
  have key : ∀ r g, g + r = G → ∀ B : Nat → Nat, (∀ h, h < g → B h < ns h ∧ zs_r (h + 1) (zs_dl π fr h (ss h (B h))) = zs_r (h + 1) (zs_dl π fr h y)) → zx_To l E (d + 2) 107 5 [some (.ref 22), some (.long (nL y)), none, some (.int (nI (zg_sm (fun h => cs h (B h)) g))), some (.int (nI g)), none, none, none] [] (I, L, Y) (fun r M' => ∃ v, r = some (.int v) ∧ Q v M') := by
    intro r
    induction r with
    | zero =>
      intro g hg B hB
      have eg : g = G := by omega
      subst eg
      exact sg_107_5 hY _ _ _ ⟨fun _ => ⟨_, rfl, h1 B hB⟩, fun h => absurd (by rw [hU.2.2.1.1]; exact (nI_leI (by omega) (by omega)).mpr (Nat.le_refl _)) h⟩
    | succ r ih =>
      intro g hg B hB
      have hgG : g < G := by omega
      have f1 := frN g (by omega)
      have f2 := frN (g + 1) (by omega)
      have h4 := hG.2.2.2.1 g hgG
      refine sg_107_5 hY _ _ _ ⟨fun h => ?_, fun _ => ?_⟩
      · rw [hU.2.2.1.1, nI_leI (by omega) (by omega)] at h; omega
      refine zy_92 hY (by omega) ⟨hY, vp_in_nI (by omega) (by omega), ?_⟩
      dsimp only
      rw [nI_clamp (by omega), hU.2.2.1.2 g (by omega)]
      have e60 : I 60 (nI g + 1).toNatClampNeg = nI (fr (g + 1)) := by rw [nI_1, nI_clamp (by omega)]; exact hU.2.2.1.2 (g + 1) (by omega)
      have gin1 : vp_in (nI g + 1) 7 := by rw [nI_1]; exact vp_in_nI (by omega) (by omega)
      have put : ∀ z i, i + z = fr (g + 1) → fr g ≤ i → zx_To l E (d + 2) 107 36 [some (.ref 22), some (.long (nL y)), none, some (.int (nI (zg_sm (fun h => cs h (B h)) g))), some (.int (nI g)), some (.long (nL (zs_r (g + 1) (fun x => if x < i then zs_dl π fr g y x else 0)))), none, some (.int (nI i))] [] (I, L, Y) (fun r M' => ∃ v, r = some (.int v) ∧ Q v M') := by
        intro z
        induction z with
        | zero =>
          intro i hi hif
          refine sg_107_36 hY _ _ _ _ _ ⟨gin1, fun _ => ?_, fun h => absurd (by rw [e60]; exact (nI_leI (by omega) (by omega)).mpr (by omega)) h⟩
          rw [zs_r_cong (δ' := zs_dl π fr g y) (fun x _ => by
            by_cases w : x < i
            · rw [if_pos w]
            · rw [if_neg w]
              unfold zs_dl zs_in
              rw [decide_eq_false (show ¬ x < fr (g + 1) by omega), Bool.and_false]; rfl)]
          refine zy_97 hY hD (zs_r_lt (by omega) (fun x _ => dl16 g x)) (fun k hk hst hbe => ⟨hY, fun w => absurd w (nI_pos (by have := zq_a_lt (M := 2 ^ sb) (h := zs_h sb) (x := zs_r (g + 1) (zs_dl π fr g y)) (k := k) (by omega); omega)), fun _ => ?_⟩)
          have alt := zq_a_lt (M := 2 ^ sb) (h := zs_h sb) (x := zs_r (g + 1) (zs_dl π fr g y)) (k := k) (by omega)
          generalize hs : zq_a (2 ^ sb) (zs_h sb) (zs_r (g + 1) (zs_dl π fr g y)) k = sl at *
          refine zy_96 hY hD (by omega) ⟨hY, fun w => ?_, fun w => ⟨_, rfl, h2 g hgG (fun j hj e => ?_)⟩⟩
          · rw [zy_b1] at w
            rcases hst with h0 | ⟨i', i1, i2⟩
            · rw [h0] at w; cases w
            · obtain ⟨v, v1, v2⟩ := hD.2.2.2.2.1 sl (by omega)
              have hi' := hD.2.2.2.2.2.2.1 _ _ alt i1
              rw [zs_Ts_v v1 (by omega)] at i1
              have hc : mk < v ∧ v ≤ mk + at_ G := by
                by_cases u : mk < v ∧ v ≤ mk + at_ G
                · exact u
                · rw [if_neg u] at i1; cases i1
              rw [if_pos hc] at i1
              have i1 := Option.some.inj i1
              have ev : nI v - nI mk - 1 = nI i' := by
                rw [zy_sub_nI (by omega) (by omega), show nI (v - mk) - 1 = nI (v - mk - 1) from zy_sub_nI (b := 1) (by omega) (by omega), i1]
              -- it is of this group
              obtain ⟨h, j, x1, x2, x3⟩ := zs_at_in t2 t3 hi'
              have rwi := (hrw h x1 j x2).1
              rw [← x3, i2] at rwi
              have hdl : ∀ x, x < 10 → zs_dl π fr h (ss h j) x < 32 := fun x hx => by have := zs_Z_dl hZ x1 x2 x hx; omega
              have mk' := zs_mark (fun x _ => by have := dl16 g x; omega) hdl rwi
              have eh : h = g := by omega
              rw [eh] at x2 x3 rwi
              obtain ⟨-, -, -, r3, -⟩ := zs_GT_row hT hgG x2
              have nfR := hD.2.2.1
              refine ⟨q 7, hQ.1 7 (by omega) (by omega), q 9, hQ.1 9 (by omega) (by omega), Or.inl (zs_ce_is c9).1, by show vp_in _ (zx_ln (I, L, Y) (q 9)); rw [(zs_ce_is c9).2]; exact vp_in_nI (by omega) (by omega), (zs_ce_is c7).1, ?_, ?_⟩
              · show vp_in (I (q 9) (nI sl).toNatClampNeg - I 22 11 - 1) (zx_ln (I, L, Y) (q 7))
                rw [(zs_ce_is c7).2, nI_clamp (by omega), v1, hd11, ev]; exact vp_in_nI (by omega) (by omega)
              · show zx_To l E (d + 2) 107 5 [some (.ref 22), some (.long (nL y)), none, some (.int (nI (zg_sm (fun h => cs h (B h)) g) + I (q 7) (I (q 9) (nI sl).toNatClampNeg - I 22 11 - 1).toNatClampNeg)), some (.int (nI g + 1)), none, none, none] [] (I, L, Y) _
                rw [nI_clamp (n := sl) (by omega), v1, hd11, ev, nI_clamp (by omega), x3, r3, nI_add, nI_1]
                have := ih (g + 1) (by omega) (fun h => if h = g then j else B h) (fun h hh => by
                  by_cases u : h = g
                  · rw [if_pos u, u]; exact ⟨x2, rwi.symm⟩
                  · rw [if_neg u]; exact hB h (by omega))
                rw [zg_sm, if_pos rfl] at this
                have s1 : zg_sm (fun h => cs h (if h = g then j else B h)) g = zg_sm (fun h => cs h (B h)) g := zg_sm_cong (fun h hh => by rw [if_neg (by omega)])
                rw [s1] at this
                exact this
          · rw [zy_b0] at w
            have none_ : zs_Ts I (q 9) mk (at_ G) sl = none := by
              cases e2 : zs_Ts I (q 9) mk (at_ G) sl with
              | none => rfl
              | some i' => rw [e2] at w; cases w
            have := zq_none hD.2.2.2.2.2 hbe (by rw [hs]; exact none_)
            refine this (at_ g + j) (zs_GT_row hT hgG hj).1.1 ?_
            rw [(hrw g hgG j hj).1]; exact e
        | succ z ihz =>
          intro i hi hif
          have hiN : i < N := by omega
          have dlt := zg_d_lt (s := y) (p := π i)
          obtain ⟨o1, o2⟩ := hO.2.1 i hiN
          refine sg_107_36 hY _ _ _ _ _ ⟨gin1, fun h => ?_, fun _ => ⟨vp_in_nI (by omega) (by omega), ?_⟩⟩
          · rw [e60, nI_leI (by omega) (by omega)] at h; omega
          rw [nI_clamp (by omega), (hU.1.2 i hiN).1]
          refine zy_157 hY hy o1 ⟨hY, ?_⟩
          rw [zs_put (k := g + 1) (p := i) (v := zg_d y (π i)) (by omega) (fun x hx => by
            have := dl16 g x
            split <;> omega) dlt (by omega) (if_neg (by omega)), nI_1]
          have := ihz (i + 1) (by omega) (by omega)
          rw [zs_r_cong (δ' := fun x => if x < i + 1 then zs_dl π fr g y x else 0) (fun x _ => ?_)]
          · exact this
          · by_cases w : x = i
            · rw [if_pos w, if_pos (by omega), w]
              unfold zs_dl
              rw [zs_in_iff.mpr ⟨hif, by omega⟩, if_pos rfl]
            · rw [if_neg w]
              by_cases w2 : x < i
              · rw [if_pos w2, if_pos (by omega)]
              · rw [if_neg w2, if_neg (by omega)]
      have := put (fr (g + 1) - fr g) (fr g) (by omega) (Nat.le_refl _)
      rw [zs_r_cong (δ' := fun _ => 0) (fun x _ => by
        by_cases w : x < fr g
        · rw [if_pos w]
          unfold zs_dl zs_in
          rw [decide_eq_false (show ¬ fr g ≤ x by omega), Bool.false_and]; rfl
        · rw [if_neg w])] at this
      exact this
  exact key G 0 (by omega) (fun _ => 0) (fun h hh => by omega)
end YE
