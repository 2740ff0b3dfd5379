/-! ===== search: all groups, one after the other ===== -/
theorem zx_u1_self {α : Type} {f : Nat → α} {i : Nat} {v : α} : zx_u1 f i v i = v := by unfold zx_u1; rw [if_pos rfl]
theorem zx_u1_ne {α : Type} {f : Nat → α} {i k : Nat} {v : α} (h : k ≠ i) : zx_u1 f i v k = f k := by unfold zx_u1; rw [if_neg h]
theorem zs_at_mono {at_ ns : Nat → Nat} : ∀ {g h : Nat}, (∀ x, x < g → at_ (x + 1) = at_ x + ns x) → h ≤ g → at_ h ≤ at_ g
  | 0, h, _, hh => by rw [show h = 0 by omega]; exact Nat.le_refl _
  | g + 1, h, e, hh => by
    by_cases z : h = g + 1
    · rw [z]; exact Nat.le_refl _
    · have := zs_at_mono (g := g) (h := h) (fun x hx => e x (by omega)) (by omega)
      have := e g (by omega)
      omega
theorem zg_pr_u1 {ns : Nat → Nat} {g n : Nat} : zg_pr (zx_u1 ns g n) (g + 1) = zg_pr ns g * n := by
  rw [zg_pr, zx_u1_self, zg_pr_cong (h := ns) (fun i hi => zx_u1_ne (by omega))]
section YA
variable {l : Launch} {E : zx_E} {d : Nat} {I : Nat → Nat → Int32} {L : Nat → Nat → Int64} {Y : zx_Y} {Qo : Option Value → zx_M → Prop} {Q : Int32 → zx_M → Prop} {Ql : Int64 → zx_M → Prop} {Qv : zx_M → Prop} {f π fr q : Nat → Nat} {P N G g b R Z mk nf lg B : Nat}
/-- the class's counts of a search -/
def zs_cu (f π fr : Nat → Nat) (P N G : Nat) (ns : Nat → Nat) (ss : Nat → Nat → Nat) (h : Nat) : Nat := zy_cnt (fun j => zs_unb f π P N fr G h (ss h j)) (ns h)
def zs_cn (f π fr : Nat → Nat) (P N G : Nat) (ns : Nat → Nat) (ss : Nat → Nat → Nat) (h : Nat) : Nat := zy_cnt (fun j => zs_nmb f π P N fr G h (ss h j)) (ns h)
/-- what spreading leaves as it was -/
def zs_fs (I J : Nat → Nat → Int32) (L K : Nat → Nat → Int64) : Prop :=
  (∀ a k, a < 160 → ¬ (71 ≤ a ∧ a ≤ 75) → a ≠ 62 → ¬ (a = 22 ∧ (10 ≤ k ∧ k ≤ 12 ∨ k = 15 ∨ k = 16)) → J a k = I a k) ∧ ∀ a k, a < 160 → ¬ (71 ≤ a ∧ a ≤ 75) → K a k = L a k
theorem zy_88 (hY : zx_lay Y) (hF : zs_F f P) (hO : zs_Om f 10 N π) (hG : zs_Gr f π N G fr) (hU : zs_U I L f N π G fr lg) (h13 : I 22 13 = nI b) (hb : b < 2 ^ 31) (hQ : zs_Q Y q R Z) (h11 : I 22 11 = nI mk) (h12 : I 22 12 = nI nf) (hmk : mk + nf + 20006 < 2 ^ 30) (hv : ∀ a, a < Z → ∃ v, I (q 9) a = nI v ∧ v ≤ mk + nf) (hrm : zs_rm B Y.2.2.2.2 R Z) (hV : zs_nV f π N b ≤ 20000)
    (hq : ∀ J K Y' q' R' Z' sb at_ ns ss pps cs, zx_lay Y' → zs_GT f π fr P N G b G J K Y' q' R' Z' sb (mk + nf) at_ ns ss pps cs → J 62 G = nI (at_ G) → J 22 15 = nI (zg_pr (zs_cu f π fr P N G ns ss) G) → J 22 16 = nI (zg_pr (zs_cn f π fr P N G ns ss) G) → zs_fs I J L K → (∀ a k, a < 160 → a ≠ 22 → Y'.1 a k = Y.1 a k) → Y'.2.2.2.1 ≤ Y.2.2.2.1 + 5 → zs_rm B Y'.2.2.2.2 R' Z' → Q (nI (zg_pr ns G)) (J, K, Y')) :
    zx_Ci l E (d + 5) 88 [.ref 22, .int (nI (zs_nV f π N b))] (I, L, Y) Q := by
  have G6 := hG.1
  have hN := hO.1
  refine sg_88_0 hY _ ?_
  rw [show nI (zs_nV f π N b) + 6 = nI (zs_nV f π N b + 6) from nI_add _ 6]
  refine zy_89 (B := B) hY hQ h11 h12 (by omega) hv (by omega) hrm (fun J0 K0 Y' q' R' Z' sb hY' hD0 r1 r2 f1 f2 f3 f4 hrm' => ⟨hY', ?_⟩)
  obtain ⟨sb1, sb2⟩ := zs_sb hD0.2.1.2.1 hD0.2.1.2.2.1
  have nq := (zs_Q_ne hD0.1).2.2.2.2
  have q6 := nq 6 (by omega) (by omega)
  have q7 := nq 7 (by omega) (by omega)
  have q8 := nq 8 (by omega) (by omega)
  have q9 := nq 9 (by omega) (by omega)
  have q5 := nq 5 (by omega) (by omega)
  have R6 := hD0.1.2.2.2.2.1
  have key : ∀ r g, g + r = G → ∀ J K at_ ns ss pps cs, zs_GT f π fr P N G b g J K Y' q' R' Z' sb (mk + nf) at_ ns ss pps cs → zs_fs I J L K →
      zx_To l E (d + 5) 88 18 [some (.ref 22), none, some (.int (nI (zg_pr ns g))), some (.int (nI (zg_pr (zs_cu f π fr P N G ns ss) g))), some (.int (nI (zg_pr (zs_cn f π fr P N G ns ss) g))), some (.int (nI g))] [] (J, K, Y') (fun r M' => ∃ v, r = some (.int v) ∧ Q v M') := by
    intro r
    induction r with
    | zero =>
      intro g hg J K at_ ns ss pps cs hT hfs
      have eg : g = G := by omega
      subst eg
      have e8 : J 23 8 = nI g := by rw [hfs.1 23 8 (by omega) (by omega) (by omega) (by omega)]; exact hU.2.2.1.1
      refine sg_88_18 hY' _ _ _ _ ⟨fun _ => ?_, fun h => absurd (by rw [e8]; exact (nI_leI (by omega) (by omega)).mpr (Nat.le_refl _)) h⟩
      obtain ⟨⟨rw, pa, ca, lo, hD, h1⟩, ⟨h2, h3, h4⟩, h5⟩ := hT
      rw [e8, nI_clamp (by omega), hD.2.1.1.2.2]
      refine ⟨vp_in_nI (by omega) (by omega), _, rfl, ?_⟩
      have el : ∀ a k, ¬ (a = 62 ∧ k = g) → ¬ (a = 22 ∧ (k = 15 ∨ k = 16)) → zx_u2 (zx_u2 (zx_u2 J 62 g (nI (at_ g))) 22 15 (nI (zg_pr (zs_cu f π fr P N g ns ss) g))) 22 16 (nI (zg_pr (zs_cn f π fr P N g ns ss) g)) a k = J a k := fun a k a1 a2 => by rw [zy_u2_ne (by omega), zy_u2_ne (by omega), zy_u2_ne a1]
      refine hq _ K Y' q' R' Z' sb at_ ns ss pps cs hY' ⟨⟨rw, pa, ca, lo, zs_Dm_cong hD (fun k => ⟨el _ _ (by omega) (by omega), el _ _ (by omega) (by omega), el _ _ (by omega) (by omega), el _ _ (by omega) (by omega)⟩) ⟨el _ _ (by omega) (by omega), el _ _ (by omega) (by omega), el _ _ (by omega) (by omega)⟩, h1⟩, ⟨h2, h3, fun h hh => by rw [el _ _ (by omega) (by omega)]; exact h4 h hh⟩, h5⟩ ?_ ?_ zy_u2_self ⟨fun a k a1 a2 a3 a4 => by rw [el a k (by omega) (by omega)]; exact hfs.1 a k a1 a2 a3 a4, hfs.2⟩ f3 f4 hrm'
      · rw [zy_u2_na (by omega), zy_u2_na (by omega), zy_u2_self]
      · rw [zy_u2_nk (by omega), zy_u2_self]
    | succ r ih =>
      intro g hg J K at_ ns ss pps cs hT hfs
      have hgG : g < G := by omega
      have e8 : J 23 8 = nI G := by rw [hfs.1 23 8 (by omega) (by omega) (by omega) (by omega)]; exact hU.2.2.1.1
      obtain ⟨⟨rw, pa, ca, lo, hD, h1⟩, ⟨h2, h3, h4⟩, h5⟩ := hT
      have nfR := hD.2.2.1
      refine sg_88_18 hY' _ _ _ _ ⟨fun h => ?_, fun _ => ⟨vp_in_nI (by omega) (by omega), ?_⟩⟩
      · rw [e8, nI_leI (by omega) (by omega)] at h; omega
      rw [nI_clamp (by omega), hD.2.1.1.2.2]
      have el : ∀ a k, ¬ (a = 62 ∧ k = g) → zx_u2 J 62 g (nI (at_ g)) a k = J a k := fun a k a1 => zy_u2_ne a1
      have hD1 : zs_Dm (zx_u2 J 62 g (nI (at_ g))) K Y' q' R' Z' sb (mk + nf) (at_ g) rw pa ca lo := zs_Dm_cong hD (fun k => ⟨el _ _ (by omega), el _ _ (by omega), el _ _ (by omega), el _ _ (by omega)⟩) ⟨el _ _ (by omega), el _ _ (by omega), el _ _ (by omega)⟩
      have room : ∀ ls : List Nat, ls.Nodup → ls ≠ [] → (∀ t, t ∈ ls → zh_V f P b (zh_A (zs_g f π N fr G) g) t) → at_ g + ls.length ≤ zs_nV f π N b + 5 := fun ls hn hne hVl => by
        have := zs_room hF hO hG hgG (zl := fun h => if h < g then (List.range (ns h)).map (ss h) else ls) (b := b) (fun h hh => by
          by_cases z : h < g
          · rw [if_pos z]
            obtain ⟨y1, y2⟩ := h5 h z
            refine ⟨?_, ?_, fun t ht => ?_⟩
            · have nd := zh_nd (s := ss h) (p := fun _ => true) y2.2.1
              rw [List.filter_eq_self.mpr (fun _ _ => rfl)] at nd
              exact nd
            · intro e
              have := congrArg List.length e
              rw [List.length_map, List.length_range, List.length_nil] at this
              have := y2.1.1
              omega
            · obtain ⟨i, hi, e⟩ := List.mem_map.mp ht
              rw [← e]; exact (y1 i (List.mem_range.mp hi)).1
          · rw [if_neg z, show h = g by omega]
            exact ⟨hn, hne, hVl⟩)
        rw [zg_sm, if_neg (by omega)] at this
        have e : zg_sm (fun h => (if h < g then (List.range (ns h)).map (ss h) else ls).length) g = at_ g := by
          rw [zs_at_sm h2 h3]
          exact zg_sm_cong (fun i hi => by rw [if_pos hi, List.length_map, List.length_range])
        rw [e] at this
        exact this
      have hf : ∀ p, p < P → zy_len (f p) ≤ 8 := fun p hp => zs_F8 hF (by have := hF.1; omega)
      have at1 := room [zg_st f P] (List.nodup_cons.mpr ⟨fun h => (by cases h), List.nodup_nil⟩) (fun h => by cases h) (fun t ht => by rw [List.mem_singleton.mp ht]; exact zh_V_st hf)
      rw [List.length_singleton] at at1
      have hC : zs_CX f π fr P N G g b (at_ g) R' sb (mk + nf) (zs_nV f π N b + 5 - at_ g) (zx_u2 J 62 g (nI (at_ g))) K rw lg := by
        refine ⟨⟨hF, hO, hG, hgG⟩, zs_U_cong hN hU (fun a k a1 a2 _ => by rw [el a k (by omega)]; exact hfs.1 a k (by omega) (by omega) (by omega) (by omega)) (fun a k a1 a2 => hfs.2 a k (by omega) (by omega)), ⟨by rw [el _ _ (by omega), hfs.1 22 13 (by omega) (by omega) (by omega) (by omega)]; exact h13, hb⟩, fun i hi => ?_, fun ls hn hVl => ?_, by omega, by omega, by omega⟩
        · obtain ⟨h, j, x1, x2, x3⟩ := zs_at_in h2 h3 hi
          have VS := ((h5 h x1).1 j x2).1.1
          rw [x3]
          exact ⟨h + 1, zs_dl π fr h (ss h j), by omega, fun x hx => by have := zs_dl_lt hF hO hG (show h < G by omega) VS x hx; omega, (h1 h x1 j x2).1⟩
        · by_cases z : ls = []
          · rw [z]; exact Nat.zero_le _
          · have := room ls hn z hVl; omega
      refine zy_90 hY' hC hD1 (fun J' K' n s ps c hB u15 u16 => ⟨hY', vp_in_nI (by omega) (by omega), ?_⟩)
      obtain ⟨⟨rw', pa', ca', lo', hD', o1, o2⟩, o3, o4, o5, o6⟩ := hB
      have e62 : J' 62 g = nI (at_ g) := by rw [o5 62 g (by omega) (by omega) (by omega) (by omega) (by omega), zy_u2_self]
      dsimp only
      rw [hD'.2.1.1.2.2, e62, u15, u16, zy_sub_nI (by omega) (by have := hD'.2.2.1; omega), show at_ g + n - at_ g = n by omega, nI_1]
      have nfR' := hD'.2.2.1
      have m1 : nI (zg_pr ns g) * nI n = nI (zg_pr (zx_u1 ns g n) (g + 1)) := by rw [zg_pr_u1]; exact (Int32.ofNat_mul _ _).symm
      have m2 : nI (zg_pr (zs_cu f π fr P N G ns ss) g) * nI (zy_cnt (fun i => zs_unb f π P N fr G g (s i)) n) = nI (zg_pr (zs_cu f π fr P N G (zx_u1 ns g n) (zx_u1 ss g s)) (g + 1)) := by
        rw [zg_pr]
        have a1 : zg_pr (zs_cu f π fr P N G (zx_u1 ns g n) (zx_u1 ss g s)) g = zg_pr (zs_cu f π fr P N G ns ss) g := zg_pr_cong (fun i hi => by unfold zs_cu; rw [zx_u1_ne (by omega), zx_u1_ne (by omega)])
        have a2 : zs_cu f π fr P N G (zx_u1 ns g n) (zx_u1 ss g s) g = zy_cnt (fun i => zs_unb f π P N fr G g (s i)) n := by unfold zs_cu; rw [zx_u1_self, zx_u1_self]
        rw [a1, a2]; exact (Int32.ofNat_mul _ _).symm
      have m3 : nI (zg_pr (zs_cn f π fr P N G ns ss) g) * nI (zy_cnt (fun i => zs_nmb f π P N fr G g (s i)) n) = nI (zg_pr (zs_cn f π fr P N G (zx_u1 ns g n) (zx_u1 ss g s)) (g + 1)) := by
        rw [zg_pr]
        have a1 : zg_pr (zs_cn f π fr P N G (zx_u1 ns g n) (zx_u1 ss g s)) g = zg_pr (zs_cn f π fr P N G ns ss) g := zg_pr_cong (fun i hi => by unfold zs_cn; rw [zx_u1_ne (by omega), zx_u1_ne (by omega)])
        have a2 : zs_cn f π fr P N G (zx_u1 ns g n) (zx_u1 ss g s) g = zy_cnt (fun i => zs_nmb f π P N fr G g (s i)) n := by unfold zs_cn; rw [zx_u1_self, zx_u1_self]
        rw [a1, a2]; exact (Int32.ofNat_mul _ _).symm
      rw [m1, m2, m3]
      have atm : ∀ h, h < g → ∀ j, j < ns h → at_ h + j < at_ g := fun h hh j hj => by
        have := h3 h hh
        have := zs_at_mono h3 (show h + 1 ≤ g by omega)
        omega
      refine ih (g + 1) (by omega) J' K' (zx_u1 at_ (g + 1) (at_ g + n)) (zx_u1 ns g n) (zx_u1 ss g s) (zx_u1 pps g ps) (zx_u1 cs g c) ⟨⟨rw', pa', ca', lo', ?_, fun h hh j hj => ?_⟩, ⟨by rw [zx_u1_ne (by omega)]; exact h2, fun h hh => ?_, fun h hh => ?_⟩, fun h hh => ?_⟩ ⟨fun a k a1 a2 a3 a4 => ?_, fun a k a1 a2 => ?_⟩
      · rw [zx_u1_self]; exact hD'
      · by_cases z : h = g
        · rw [z] at hj ⊢
          rw [zx_u1_self] at hj
          rw [zx_u1_ne (by omega), zx_u1_self, zx_u1_self, zx_u1_self]
          exact o2 j hj
        · rw [zx_u1_ne z] at hj
          rw [zx_u1_ne (by omega), zx_u1_ne z, zx_u1_ne z, zx_u1_ne z]
          obtain ⟨w1, w2, w3, w4⟩ := o1 (at_ h + j) (atm h (by omega) j hj)
          rw [w1, w2, w3, w4]
          exact h1 h (by omega) j hj
      · by_cases z : h = g
        · rw [z, zx_u1_self, zx_u1_self, zx_u1_ne (by omega)]
        · rw [zx_u1_ne (by omega), zx_u1_ne (by omega), zx_u1_ne z]; exact h3 h (by omega)
      · rw [zx_u1_ne (by omega)]
        by_cases z : h = g
        · rw [z]; exact e62
        · rw [o5 62 h (by omega) (by omega) (by omega) (by omega) (by omega), zy_u2_nk z]; exact h4 h (by omega)
      · by_cases z : h = g
        · rw [z, zx_u1_self, zx_u1_self, zx_u1_self, zx_u1_self]; exact ⟨o3, o4⟩
        · rw [zx_u1_ne z, zx_u1_ne z, zx_u1_ne z, zx_u1_ne z]; exact h5 h (by omega)
      · rw [o5 a k (by omega) (by omega) (by omega) (by omega) (by omega), zy_u2_na a3]; exact hfs.1 a k a1 a2 a3 a4
      · rw [o6 a k (by omega)]; exact hfs.2 a k a1 a2
  exact key G 0 (by omega) J0 K0 (fun _ => 0) (fun _ => 0) (fun _ _ => 0) (fun _ _ => 0) (fun _ _ => 0) ⟨⟨_, _, _, _, hD0, fun h hh => by omega⟩, ⟨rfl, fun h hh => by omega, fun h hh => by omega⟩, fun h hh => by omega⟩ ⟨fun a k a1 _ _ a4 => f1 a k a1 (by omega), fun a k a1 _ => f2 a k a1⟩
end YA
