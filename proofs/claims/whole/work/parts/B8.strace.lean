/-! ===== search: the ways of the class ===== -/
theorem zs_63 {I : Nat → Nat → Int32} {L : Nat → Nat → Int64} {Y : zx_Y} (hY : zx_lay Y) {g : Nat} (hg : g < 6) : Y.1 63 g = some (64 + g) ∧ zx_is (I, L, Y) (64 + g) 20 ∧ zx_ln (I, L, Y) (64 + g) = 12 := by
  have h1 : ∀ g : Fin 6, zx_RF[67 + g.1]? = some (63, g.1, 64 + g.1) := by decide
  have h2 : ∀ g : Fin 6, (Nat.ble 3 (64 + g.1) && Nat.blt (64 + g.1) 160) = true ∧ (Nat.ble 1 (64 + g.1) && Nat.blt (64 + g.1) 160) = true ∧ zx_KD.getD (64 + g.1) 0 = 20 ∧ zx_LN.getD (64 + g.1) 0 = 12 := by decide
  obtain ⟨a1, a2, a3, a4⟩ := h2 ⟨g, hg⟩
  exact ⟨zx_lrf hY _ _ _ _ (h1 ⟨g, hg⟩), zx_lis hY _ _ a1 a3, zx_lln hY _ _ a2 a4⟩
def zs_fil (I : Nat → Nat → Int32) (p n : Nat) (v : Int32) : Nat → Nat → Int32 := fun a k => if a = p ∧ k < n then v else I a k
theorem zs_fil_s {I : Nat → Nat → Int32} {p n : Nat} {v : Int32} : zx_u2 (zs_fil I p n v) p n v = zs_fil I p (n + 1) v := by
  funext a k
  unfold zx_u2 zs_fil
  by_cases h : a = p ∧ k = n
  · rw [if_pos h, if_pos ⟨h.1, by omega⟩]
  · rw [if_neg h]
    by_cases h2 : a = p ∧ k < n
    · rw [if_pos h2, if_pos ⟨h2.1, by omega⟩]
    · rw [if_neg h2, if_neg (fun q => by
        by_cases z : k = n
        · exact h ⟨q.1, z⟩
        · exact h2 ⟨q.1, by omega⟩)]
theorem zs_Z_cong {f π fr : Nat → Nat} {N G b lg : Nat} {I J : Nat → Nat → Int32} {L K : Nat → Nat → Int64} {Y : zx_Y} {q : Nat → Nat} {R Z sb mk : Nat} {at_ ns : Nat → Nat} {ss pps cs : Nat → Nat → Nat} (h : zs_Z f π fr N G b lg I L Y q R Z sb mk at_ ns ss pps cs) (hJ : ∀ a k, (22 ≤ a ∧ a ≤ 62) ∨ (71 ≤ a ∧ a ≤ 75) ∨ 160 ≤ a → J a k = I a k) (hK : ∀ a k, (23 ≤ a ∧ a ≤ 62) ∨ (71 ≤ a ∧ a ≤ 75) ∨ 160 ≤ a → K a k = L a k) : zs_Z f π fr N G b lg J K Y q R Z sb mk at_ ns ss pps cs := by
  obtain ⟨⟨a1, a2, a3, a4⟩, b1, c1⟩ := h
  have hQ := zs_GT_Q b1
  have nq := (zs_Q_ne hQ).2.2.2.2
  have q5 := nq 5 (by omega) (by omega)
  have q6 := nq 6 (by omega) (by omega)
  have q7 := nq 7 (by omega) (by omega)
  have q8 := nq 8 (by omega) (by omega)
  have q9 := nq 9 (by omega) (by omega)
  exact ⟨⟨a1, a2, a3, zs_U_cong a2.1 a4 (fun a k h1 h2 _ => hJ a k (by omega)) (fun a k h1 h2 => hK a k (by omega))⟩, zs_GT_cong b1 hQ (fun k => ⟨hJ _ _ (by omega), hJ _ _ (by omega), hJ _ _ (by omega), hJ _ _ (by omega)⟩) ⟨hJ _ _ (by omega), hJ _ _ (by omega), hJ _ _ (by omega)⟩ (fun k => hK _ _ (by omega)) (fun h _ => hJ _ _ (by omega)), fun g hg => by rw [hJ _ _ (by omega)]; exact c1 g hg⟩
section YF
variable {l : Launch} {E : zx_E} {d : Nat} {I : Nat → Nat → Int32} {L : Nat → Nat → Int64} {Y : zx_Y} {Qo : Option Value → zx_M → Prop} {Q : Int32 → zx_M → Prop} {Ql : Int64 → zx_M → Prop} {Qv : zx_M → Prop} {f π fr q : Nat → Nat} {P N G g b R Z sb mk lg : Nat} {at_ ns : Nat → Nat} {ss pps cs : Nat → Nat → Nat} {α ο : Nat → Nat} {md : Bool}
theorem zy_271 (hY : zx_lay Y) {p n : Nat} {v : Int32} (hp : ∀ J, zx_is (J, L, Y) p 20 ∧ zx_ln (J, L, Y) p = n) (hn : n < 2 ^ 31) (hq : Qv (zs_fil I p n v, L, Y)) : zx_Cv l E d 271 [.ref p, .int v] (I, L, Y) Qv := by
  have k := (hp I).1
  refine sg_271_0 hY _ _ ⟨Or.inl ⟨k.1, k.2.1, by rw [k.2.2]; omega, by rw [k.2.2]; omega⟩, ?_⟩
  rw [(hp I).2, show Int32.ofNat n = nI n from rfl]
  have st := zy_down (n := n) (P := fun i => zx_To l E d 271 5 [some (.ref p), some (.int v), some (.int (nI i)), some (.int (nI n))] [] (zs_fil I p i v, L, Y) (fun r M' => r = none ∧ Qv M')) ?_ (fun i hi ih => ?_)
  · rw [show zs_fil I p 0 v = I by funext a k; unfold zs_fil; rw [if_neg (by omega)]] at st
    exact st
  · exact sg_271_5 hY _ _ _ _ ⟨fun _ => ⟨rfl, hq⟩, fun h => absurd ((nI_leI (by omega) (by omega)).mpr (Nat.le_refl _)) h⟩
  · refine sg_271_5 hY _ _ _ _ ⟨fun h => ?_, fun _ => ⟨(hp _).1, by rw [(hp _).2]; exact vp_in_nI hi hn, ?_⟩⟩
    · rw [nI_leI (by omega) (by omega)] at h; omega
    · rw [nI_clamp (by omega), zs_fil_s, nI_1]; exact ih
theorem zy_103 (hY : zx_lay Y) (hZ : zs_Z f π fr N G b lg I L Y q R Z sb mk at_ ns ss pps cs) (hg : g < G) {B : Nat} (hB : B < ns g)
    (hq : ∀ J, (∀ a k, a ≠ 64 + g → ¬ (a = 70 ∧ k = g) → J a k = I a k) → J 70 g = 0 → (∀ k, k < 12 → J (64 + g) k = nI (zh_wy f 10 (ss g) (pps g) (cs g) B k)) → Qv (J, L, Y)) :
    zx_Cv l E (d + 2) 103 [.ref 22, .int (nI g), .int (nI (at_ g + B))] (I, L, Y) Qv := by
  obtain ⟨⟨hF, hO, hG, hU⟩, hT, h62⟩ := id hZ
  have G6 := hG.1
  have N10 := hO.1
  have hf : ∀ p, p < 10 → zy_len (f p) ≤ 8 := fun p hp => zs_F8 hF hp
  have hQ := zs_GT_Q hT
  have nq := (zs_Q_ne hQ).2.2.2.2
  have n5 := nq 5 (by omega) (by omega)
  have n6 := nq 6 (by omega) (by omega)
  have n7 := nq 7 (by omega) (by omega)
  obtain ⟨c5, c6, c7, c8, c9⟩ := hQ.2.1
  have hBt := (hT.2.2 g hg).2
  have hx := zs_zh_nx (b := b) hF hO hG hg
  have hTg := zh_T_of (zg_st_S hf) hx hBt
  have gin : vp_in (nI g) 6 := vp_in_nI (by omega) (by omega)
  obtain ⟨rB0, -, -, rB3, -, rB5, -⟩ := zs_GT_row hT hg hB
  have rin : ∀ {J : Nat → Nat → Int32} {kk kd j}, zs_ce Y (q kk) kd R → j < ns g → vp_in (nI (at_ g + j)) (zx_ln (J, L, Y) (q kk)) := fun {J kk kd j} hc hj => by
    have := (zs_GT_row hT hg hj).1
    rw [(zs_ce_is hc).2]; exact vp_in_nI (by omega) (by omega)
  refine sg_103_0 hY _ _ ⟨gin, gin, 64 + g, by rw [nI_clamp (by omega)]; exact (zs_63 (I := I) (L := L) hY (by omega)).1, ?_⟩
  rw [nI_clamp (by omega)]
  refine zy_271 hY (fun J => (zs_63 hY (by omega)).2) (by decide) ⟨hY, q 7, hQ.1 7 (by omega) (by omega), (zs_ce_is c7).1, rin c7 hB, ?_⟩
  have e0 : ∀ a k, a ≠ 64 + g → ¬ (a = 70 ∧ k = g) → zs_fil (zx_u2 I 70 g 0) (64 + g) 12 0 a k = I a k := fun a k h1 h2 => by
    unfold zs_fil
    rw [if_neg (fun z => h1 z.1), zy_u2_ne h2]
  dsimp only
  rw [nI_clamp (by omega), e0 (q 7) _ (by omega) (by omega), rB3, zg_pd_sub]
  have key : ∀ j J, j ≤ cs g B → (∀ a k, a ≠ 64 + g → ¬ (a = 70 ∧ k = g) → J a k = I a k) → J 70 g = 0 → (∀ k, k < 12 → j ≤ k → J (64 + g) k = nI (zh_wy f 10 (ss g) (pps g) (cs g) B k)) →
      zx_To l E (d + 2) 103 29 [some (.ref 22), some (.int (nI g)), none, some (.int (nI (at_ g + zq_up (pps g) (cs g B - j) B))), some (.int (zg_pd j)), none, none, none, none] [] (J, L, Y) (fun r M' => r = none ∧ Qv M') := by
    intro j
    induction j with
    | zero =>
      intro J _ j1 j2 j3
      exact sg_103_29 hY _ _ _ ⟨fun _ => sg_103_141 hY ⟨rfl, hq J j1 j2 (fun k hk => j3 k hk (by omega))⟩, fun h => absurd (by decide : (-1 : Int32) < 0) h⟩
    | succ j ih =>
      intro J hj j1 j2 j3
      obtain ⟨u1, u2⟩ := zq_up_c hBt (cs g B - (j + 1)) B hB (by omega)
      obtain ⟨v1, v2⟩ := zq_up_c hBt (cs g B - j) B hB (by omega)
      obtain ⟨q0, E1, E2, E3⟩ := zh_wy_at hx hBt hTg hB (show j < cs g B by omega)
      rw [Nat.sub_sub] at E2
      have hpar : pps g (zq_up (pps g) (cs g B - (j + 1)) B) = zq_up (pps g) (cs g B - j) B := by
        have := zq_up_s (p := pps g) (cs g B - (j + 1)) B
        rw [show cs g B - (j + 1) + 1 = cs g B - j by omega] at this
        exact this.symm
      have hw0 : zq_up (pps g) (cs g B - (j + 1)) B ≠ 0 := fun z => by rw [z, hBt.1.2.2.1] at u2; omega
      generalize hwr : zq_up (pps g) (cs g B - (j + 1)) B = w at *
      generalize hur : zq_up (pps g) (cs g B - j) B = u at *
      obtain ⟨⟨w0, w0', w0''⟩, w1, w2, -, -, -, -⟩ := zs_GT_row hT hg u1
      obtain ⟨⟨u0, u0', u0''⟩, x1, -, -, -, -, -⟩ := zs_GT_row hT hg v1
      rw [if_neg hw0, hpar] at w2
      have uS := (hTg.2.1 u v1).1
      -- the place that was called
      obtain ⟨i0, i1, i2, i3⟩ := zs_cl_of hF hO hG hg E1
      obtain ⟨cl1, cl2, cl3, -⟩ := zs_cl_iff.mp i2
      have d1 := E1.2.2.1
      have l1 : 1 ≤ zg_d (ss g u) q0 := by omega
      have dl8 := zs_Z_dl hZ hg v1
      have dl16 : ∀ i, i < 10 → zs_dl π fr g (ss g u) i < 16 := fun i hi => by have := dl8 i hi; omega
      have dto := zs_dl_to hF hO hG hg uS l1 cl1 cl2
      have dle : zs_dl π fr g (ss g u) i0 = zg_d (ss g u) q0 := by unfold zs_dl; rw [cl1, if_pos rfl, cl2]
      have cmi : zs_cm f π fr g (ss g u) (zg_d (ss g u) q0) i0 i0 = true := zs_cm_iff.mpr ⟨cl1, cl2, rfl⟩
      have cle : ∀ i, i < 10 → zg_bt (zs_cm f π fr g (ss g u) (zg_d (ss g u) q0) i0) i ≤ zs_dl π fr g (ss g u) i := fun i hi => by
        cases e : zs_cm f π fr g (ss g u) (zg_d (ss g u) q0) i0 i with
        | false => rw [zg_bt_0 e]; omega
        | true =>
          obtain ⟨m1, m2, -⟩ := zs_cm_iff.mp e
          rw [zg_bt_1 e]
          unfold zs_dl
          rw [m1, if_pos rfl]; omega
      have sub := zs_c_sub (N := 10) cle
      have erw : zs_r (g + 1) (zs_dl π fr g (ss g w)) = zs_r (g + 1) (fun i => zs_dl π fr g (ss g u) i - zg_bt (zs_cm f π fr g (ss g u) (zg_d (ss g u) q0) i0) i) := by
        rw [E2, ← zh_to_eq i3]
        exact zs_r_cong dto
      have ltr := zs_r_lt (k := g + 1) (by omega) dl16
      have diff : nL (zs_r (g + 1) (zs_dl π fr g (ss g u))) - nL (zs_r (g + 1) (zs_dl π fr g (ss g w))) = nL (zs_c 10 (zg_bt (zs_cm f π fr g (ss g u) (zg_d (ss g u) q0) i0))) := by
        rw [erw, nL_sub ltr (by rw [zs_r_eq, zs_r_eq]; omega)]
        congr 1
        rw [zs_r_eq, zs_r_eq]; omega
      have jq : ∀ a k, 71 ≤ a → J a k = I a k := fun a k ha => j1 a k (by omega) (by omega)
      have cw : (nI (at_ g + w)).toNatClampNeg = at_ g + w := nI_clamp (by omega)
      have cu : (nI (at_ g + u)).toNatClampNeg = at_ g + u := nI_clamp (by omega)
      have l8 : zg_d (ss g u) q0 ≤ 8 := by rw [← dle]; exact dl8 i0 (by omega)
      have back : ∀ J2, (∀ a k, a ≠ 64 + g → ¬ (a = 70 ∧ k = g) → J2 a k = I a k) → J2 70 g = 0 → (∀ k, k < 12 → j ≤ k → J2 (64 + g) k = nI (zh_wy f 10 (ss g) (pps g) (cs g) B k)) → zx_To l E (d + 2) 103 128 [some (.ref 22), some (.int (nI g)), none, some (.int (nI (at_ g + w))), some (.int (nI j)), none, none, none, none] [] (J2, L, Y) (fun r M' => r = none ∧ Qv M') := fun J2 b1 b2 b3 => by
        refine sg_103_128 hY _ _ _ ⟨q 6, hQ.1 6 (by omega) (by omega), Or.inl (zs_ce_is c6).1, rin c6 u1, ?_⟩
        rw [cw, b1 (q 6) _ (by omega) (by omega), w2, zg_pd_add]
        exact ih J2 (by omega) b1 b2 b3
      rw [show zg_pd (j + 1) = nI j from rfl]
      refine sg_103_29 hY _ _ _ ⟨fun h => absurd h (nI_pos (by omega)), fun _ => ⟨q 6, hQ.1 6 (by omega) (by omega), Or.inl (zs_ce_is c6).1, rin c6 u1, ?_⟩⟩
      rw [cw, jq (q 6) _ (by omega), w2]
      refine ⟨fun h => absurd h (nI_pos (by omega)), fun _ => ⟨q 5, hQ.1 5 (by omega) (by omega), q 6, hQ.1 6 (by omega) (by omega), Or.inl (zs_ce_is c6).1, rin c6 u1, (zs_ce_is c5).1, ?_, q 5, hQ.1 5 (by omega) (by omega), (zs_ce_is c5).1, rin c5 u1, ?_⟩⟩
      · rw [jq (q 6) _ (by omega), w2]; exact rin c5 v1
      · rw [jq (q 6) _ (by omega), w2, cu, x1, w1, diff]
        refine zy_267 hY (by omega) cmi cl3 ⟨hY, ?_⟩
        rw [nI_div5 (by omega), zs_dig (by omega) dl16 (show i0 < 10 by omega), dle]
        have keep : 12 ≤ j → zx_To l E (d + 2) 103 128 [some (.ref 22), some (.int (nI g)), none, some (.int (nI (at_ g + w))), some (.int (nI j)), none, none, none, none] [] (J, L, Y) (fun r M' => r = none ∧ Qv M') := fun h12 => back J j1 j2 (fun k k1 k2 => by omega)
        refine ⟨fun h => ?_, fun h => ⟨fun h2 => ?_, fun _ => ⟨fun h2 => ?_, fun _ => ⟨gin, 64 + g, by rw [nI_clamp (by omega)]; exact (zs_63 (I := I) (L := L) hY (by omega)).1, vp_in_nI (by omega) (by omega), 28 + i0, by rw [nI_clamp (by omega)]; exact (zs_27 hY (by omega)).1, Or.inl (zs_28 hY (by omega)).1.1, ?_, (zs_63 hY (by omega)).2.1, ?_, ?_⟩⟩⟩⟩
        · rw [show (12 : Int32) = nI 12 from rfl, nI_leI (by omega) (by omega)] at h
          exact keep h
        · rw [zy_10 (by omega)] at h2; omega
        · rw [show (8 : Int32) = nI 8 from rfl, nI_ltI (by omega) (by omega)] at h2; omega
        · show vp_in (nI (zg_d (ss g u) q0)) (zx_ln (J, L, Y) (28 + i0))
          rw [(zs_28 hY (by omega)).1.2]; exact vp_in_nI (by omega) (by omega)
        · rw [show (12 : Int32) = nI 12 from rfl, nI_leI (by omega) (by omega)] at h
          show vp_in (nI j) (zx_ln (J, L, Y) (64 + g))
          rw [(zs_63 hY (by omega)).2.2]; exact vp_in_nI (by omega) (by omega)
        · rw [show (12 : Int32) = nI 12 from rfl, nI_leI (by omega) (by omega)] at h
          have ebg : J (28 + i0) (nI (zg_d (ss g u) q0)).toNatClampNeg = nI (zh_wy f 10 (ss g) (pps g) (cs g) B j) := by
            have := uS.2 _ (hO.2.1 i0 i1).1
            rw [cl2] at this
            rw [nI_clamp (by omega), j1 _ _ (by omega) (by omega), (hU.2.1 i0 i1).1.2 _ this, E3, ← i3]
            congr 1
            unfold zg_n
            rw [cl2]
          show zx_To l E (d + 2) 103 128 [some (.ref 22), some (.int (nI g)), none, some (.int (nI (at_ g + w))), some (.int (nI j)), none, none, none, none] [] (zx_u2 J (64 + g) (nI j).toNatClampNeg (J (28 + i0) (nI (zg_d (ss g u) q0)).toNatClampNeg), L, Y) _
          rw [ebg, nI_clamp (by omega)]
          refine back _ (fun a k a1 a2 => by rw [zy_u2_na a1]; exact j1 a k a1 a2) (by rw [zy_u2_na (by omega)]; exact j2) (fun k k1 k2 => ?_)
          by_cases z : k = j
          · rw [z, zy_u2_self]
          · rw [zy_u2_nk z]; exact j3 k k1 (by omega)
  have := key (cs g B) (zs_fil (zx_u2 I 70 g 0) (64 + g) 12 0) (Nat.le_refl _) e0 (by unfold zs_fil; rw [if_neg (by omega), zy_u2_self]) (fun k k1 k2 => by
    unfold zs_fil zh_wy
    rw [if_pos ⟨rfl, k1⟩, if_neg (by omega)]; rfl)
  rw [Nat.sub_self] at this
  exact this
def zs_o1 (w : Nat → Nat) : Option Nat → Int32
  | none => 0
  | some g => nI (w g)
def zs_o2 : Option Nat → Int32
  | none => -1
  | some g => nI g
theorem zy_104 (hY : zx_lay Y) (G6 : G ≤ 6) (h8 : I 23 8 = nI G) {τ : Nat → Nat} {wy : Nat → Nat → Nat} (ht : ∀ g, g < G → I 70 g = nI (τ g) ∧ τ g < 12 ∧ I (64 + g) (τ g) = nI (wy g (τ g)) ∧ wy g (τ g) < 2 ^ 31)
    (h0 : zg_fb (fun g => decide (wy g (τ g) ≠ 0)) (fun g => wy g (τ g)) G = none → Q 0 (I, L, Y))
    (h1 : ∀ g, zg_fb (fun g => decide (wy g (τ g) ≠ 0)) (fun g => wy g (τ g)) G = some g → Q (nI (wy g (τ g))) (zx_u2 I 70 g (nI (τ g + 1)), L, Y)) :
    zx_Ci l E d 104 [.ref 22] (I, L, Y) Q := by
  refine sg_104_0 hY ?_
  refine zy_down (n := G) (P := fun g => zx_To l E d 104 6 [some (.ref 22), some (.int (zs_o1 (fun g => wy g (τ g)) (zg_fb (fun g => decide (wy g (τ g) ≠ 0)) (fun g => wy g (τ g)) g))), some (.int (zs_o2 (zg_fb (fun g => decide (wy g (τ g) ≠ 0)) (fun g => wy g (τ g)) g))), some (.int (nI g)), none] [] (I, L, Y) (fun r M' => ∃ v, r = some (.int v) ∧ Q v M')) ?_ (fun g hg ih => ?_)
  · have ok := zg_fb_ok (W := fun g => decide (wy g (τ g) ≠ 0)) (κ := fun g => wy g (τ g)) G
    refine sg_104_6 hY _ _ _ ⟨fun _ => ?_, fun h => absurd (by rw [h8]; exact (nI_leI (by omega) (by omega)).mpr (Nat.le_refl _)) h⟩
    cases e : zg_fb (fun g => decide (wy g (τ g) ≠ 0)) (fun g => wy g (τ g)) G with
    | none => exact ⟨fun _ => ⟨_, rfl, h0 e⟩, fun z => absurd (by decide : (-1 : Int32) < 0) z⟩
    | some g =>
      rw [e] at ok
      have hg := ok.1
      refine ⟨fun z => absurd z (nI_pos (by omega)), fun _ => ⟨vp_in_nI (by omega) (by omega), vp_in_nI (by omega) (by omega), _, rfl, ?_⟩⟩
      show Q (nI (wy g (τ g))) (zx_u2 I 70 (nI g).toNatClampNeg (I 70 (nI g).toNatClampNeg + 1), L, Y)
      rw [nI_clamp (by omega), (ht g hg).1, nI_1]
      exact h1 g e
  · obtain ⟨t1, t2, t3, t4⟩ := ht g hg
    have gin : vp_in (nI g) 6 := vp_in_nI (by omega) (by omega)
    have cg : (nI g).toNatClampNeg = g := nI_clamp (by omega)
    have ct : (nI (τ g)).toNatClampNeg = τ g := nI_clamp (by omega)
    have ok := zg_fb_ok (W := fun g => decide (wy g (τ g) ≠ 0)) (κ := fun g => wy g (τ g)) g
    rw [zg_fb] at ih
    refine sg_104_6 hY _ _ _ ⟨fun h => ?_, fun _ => ⟨gin, fun h => ?_, fun _ => ⟨gin, 64 + g, by rw [cg]; exact (zs_63 (I := I) (L := L) hY (by omega)).1, gin, Or.inl (zs_63 hY (by omega)).2.1, ?_, ?_⟩⟩⟩
    · rw [h8, nI_leI (by omega) (by omega)] at h; omega
    · rw [cg, t1, show (12 : Int32) = nI 12 from rfl, nI_leI (by omega) (by omega)] at h; omega
    · rw [cg, t1, (zs_63 hY (by omega)).2.2]; exact vp_in_nI t2 (by omega)
    · rw [cg, t1, ct, t3, ← nI_0, nI_eq t4 (by omega), nI_1]
      refine ⟨fun z => ?_, fun z => ?_⟩
      · rw [decide_eq_false (fun y => y z), if_neg (by decide)] at ih; exact ih
      · rw [decide_eq_true z, if_pos rfl] at ih
        cases e : zg_fb (fun g => decide (wy g (τ g) ≠ 0)) (fun g => wy g (τ g)) g with
        | none =>
          rw [e] at ih
          exact ⟨fun _ => ih, fun y => absurd (by rw [nI_0]; decide : (-1 : Int32) < nI 0) y⟩
        | some h =>
          rw [e] at ih ok
          have hh := ok.1
          dsimp only at ih
          refine ⟨fun y => absurd y (by rw [nI_0]; exact nI_pos (by omega)), fun _ => ?_⟩
          show (nI (wy h (τ h)) ≤ nI (wy g (τ g)) → _) ∧ (¬ nI (wy h (τ h)) ≤ nI (wy g (τ g)) → _)
          rw [nI_leI (ht h (by omega)).2.2.2 t4]
          refine ⟨fun y => ?_, fun y => ?_⟩
          · rw [if_neg (by omega)] at ih; exact ih
          · rw [if_pos (by omega)] at ih; exact ih
end YF
