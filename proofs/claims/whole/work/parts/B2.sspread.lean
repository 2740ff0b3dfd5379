/-! ===== search: all groups are searched ===== -/
theorem zg_sm_pr {g : Nat → Nat} : ∀ m, (∀ i, i ≤ m → 1 ≤ g i) → 1 ≤ zg_pr g (m + 1) ∧ zg_sm g (m + 1) ≤ zg_pr g (m + 1) + m
  | 0, h => by
    have := h 0 (Nat.le_refl _)
    show 1 ≤ 1 * g 0 ∧ 0 + g 0 ≤ 1 * g 0 + 0
    rw [Nat.one_mul]; omega
  | m + 1, h => by
    obtain ⟨h1, h2⟩ := zg_sm_pr m (fun i hi => h i (by omega))
    have h3 := h (m + 1) (Nat.le_refl _)
    rw [zg_sm, zg_pr]
    generalize zg_pr g (m + 1) = x at *
    generalize g (m + 1) = y at *
    obtain ⟨a, rfl⟩ : ∃ a, x = a + 1 := ⟨x - 1, by omega⟩
    obtain ⟨b, rfl⟩ : ∃ b, y = b + 1 := ⟨y - 1, by omega⟩
    have e : (a + 1) * (b + 1) = a * b + a + b + 1 := by rw [Nat.add_mul, Nat.mul_add]; omega
    rw [e]; omega
section RO
variable {f π fr : Nat → Nat} {P N G b t : Nat}
theorem zs_V_join (hF : zs_F f P) (hO : zs_Om f 10 N π) (hG : zs_Gr f π N G fr) (hS : zg_S f P t) (hV : ∀ g, g < G → zh_V f P b (zh_A (zs_g f π N fr G) g) (zh_pj f P (zs_g f π N fr G) g t)) : zh_V f P b (fun _ => true) t := by
  have hP := hF.1
  have hf : ∀ p, p < P → zy_len (f p) ≤ 8 := fun p hp => zs_F8 hF (by omega)
  have zG := zs_zh_G hF hO hG
  refine ⟨hS, fun p q hp hq hpr => ?_, fun p hp hh => ?_⟩
  · by_cases q0 : f q = 0
    · have := hS.2 q hq
      rw [q0, zy_len_0] at this; omega
    · have p0 : f p ≠ 0 := fun z => by
        unfold zh_pr at hpr
        rw [z] at hpr
        have := zy_pf_le 0 (zy_len (f q))
        omega
      have lq : 1 ≤ zy_len (f q) := by
        have : zy_len (f q) ≠ 0 := fun z => q0 (zy_len_pos.mp z)
        omega
      have e1 : zy_pf (f p) 1 = zy_pf (f q) 1 := by
        have h2 : zy_pf (f q) 1 = zy_pf (zy_pf (f p) (zy_len (f q))) 1 := by unfold zh_pr at hpr; rw [hpr]
        rw [h2, zy_pf_pf lq]
      have eg := (zG.2.2 p q hp hq p0 q0).mp e1
      have := (hV _ (zG.1 p hp p0)).2.1 p q hp hq hpr
      rw [zh_pj_d hf hp, zh_pj_d hf hq, if_pos rfl, if_pos eg.symm] at this
      exact this
  · rcases hh with z | hb
    · cases z
    · by_cases p0 : f p = 0
      · have := hS.2 p hp
        rw [p0, zy_len_0] at this ⊢; omega
      · have := (hV _ (zG.1 p hp p0)).2.2 p hp (Or.inr hb)
        rw [zh_pj_d hf hp, if_pos rfl] at this
        exact this
theorem zs_room (hF : zs_F f P) (hO : zs_Om f 10 N π) (hG : zs_Gr f π N G fr) {m : Nat} (hm : m < G) {zl : Nat → List Nat} (h1 : ∀ h, h ≤ m → (zl h).Nodup ∧ zl h ≠ [] ∧ ∀ t, t ∈ zl h → zh_V f P b (zh_A (zs_g f π N fr G) h) t) : zg_sm (fun h => (zl h).length) (m + 1) ≤ zs_nV f π N b + 5 := by
  have hP := hF.1
  have G6 := hG.1
  have hf : ∀ p, p < P → zy_len (f p) ≤ 8 := fun p hp => zs_F8 hF (by omega)
  have zG := zs_zh_G hF hO hG
  have hz : ∀ g, g < G → ∀ u, u ∈ (fun h => if h ≤ m then zl h else []) g → zg_S f P u ∧ zh_pj f P (zs_g f π N fr G) g u = u := fun g hg u hu => by
    have hu : u ∈ (if g ≤ m then zl g else []) := hu
    by_cases z : g ≤ m
    · rw [if_pos z] at hu
      have := (h1 g z).2.2 u hu
      exact ⟨this.1, zh_pj_self hf this⟩
    · rw [if_neg z] at hu; cases hu
  have hn : ∀ g, g < G → ((fun h => if h ≤ m then zl h else []) g).Nodup := fun g hg => by
    show (if g ≤ m then zl g else []).Nodup
    by_cases z : g ≤ m
    · rw [if_pos z]; exact (h1 g z).1
    · rw [if_neg z]; exact List.nodup_nil
  have nd := zh_L_nd hf zG hz hn (m + 1) (by omega)
  have mem := zh_L_mem hf zG hz (m + 1) (by omega)
  have le := zs_nV_le hF hO nd (b := b) (fun t ht => by
    obtain ⟨t1, t2, t3⟩ := (mem t).mp ht
    refine zs_V_join hF hO hG t1 (fun g hg => ?_)
    by_cases z : g < m + 1
    · have := t2 g z
      have this : zh_pj f P (zs_g f π N fr G) g t ∈ (if g ≤ m then zl g else []) := this
      rw [if_pos (by omega)] at this
      exact (h1 g (by omega)).2.2 _ this
    · rw [t3 g (by omega) hg]; exact zh_V_st hf)
  rw [zh_L_len] at le
  have e : zg_pr (fun g => ((fun h => if h ≤ m then zl h else []) g).length) (m + 1) = zg_pr (fun h => (zl h).length) (m + 1) := zg_pr_cong (fun i hi => by
    show (if i ≤ m then zl i else []).length = _
    rw [if_pos (by omega)])
  rw [e] at le
  have := (zg_sm_pr (g := fun h => (zl h).length) m (fun i hi => by
    have := (h1 i hi).2.1
    cases hc : zl i with
    | nil => exact absurd hc this
    | cons x xs => rw [List.length_cons]; omega)).2
  omega
end RO
theorem zs_U_cong {I J : Nat → Nat → Int32} {L K : Nat → Nat → Int64} {f π fr : Nat → Nat} {N G lg : Nat} (hN : N ≤ 10) (h : zs_U I L f N π G fr lg) (h1 : ∀ a k, 23 ≤ a → a ≤ 60 → ¬ (49 ≤ a ∧ a ≤ 59) → J a k = I a k) (h2 : ∀ a k, 23 ≤ a → a ≤ 60 → K a k = L a k) : zs_U J K f N π G fr lg := by
  obtain ⟨⟨a1, a2⟩, b1, ⟨c1, c2⟩, d1, d2⟩ := h
  exact ⟨⟨by rw [h1 _ _ (by omega) (by omega) (by omega)]; exact a1, fun i hi => by rw [h1 _ _ (by omega) (by omega) (by omega), h1 _ _ (by omega) (by omega) (by omega)]; exact a2 i hi⟩,
    fun i hi => ⟨⟨by rw [h1 _ _ (by omega) (by omega) (by omega)]; exact (b1 i hi).1.1, fun x hx => by rw [h1 _ _ (by omega) (by omega) (by omega)]; exact (b1 i hi).1.2 x hx⟩, fun x x1 x2 => by rw [h2 _ _ (by omega) (by omega)]; exact (b1 i hi).2 x x1 x2⟩,
    ⟨by rw [h1 _ _ (by omega) (by omega) (by omega)]; exact c1, fun g hg => by rw [h1 _ _ (by omega) (by omega) (by omega)]; exact c2 g hg⟩, by rw [h1 _ _ (by omega) (by omega) (by omega)]; exact d1, d2⟩
section YZ
variable {l : Launch} {E : zx_E} {d : Nat} {I : Nat → Nat → Int32} {L : Nat → Nat → Int64} {Y : zx_Y} {Qo : Option Value → zx_M → Prop} {Q : Int32 → zx_M → Prop} {Ql : Int64 → zx_M → Prop} {Qv : zx_M → Prop} {f π fr q rw0 ca0 lo0 : Nat → Nat} {pa0 : Nat → Int32} {P N G g b o R Z sb mk C lg : Nat}
theorem zy_90 (hY : zx_lay Y) (hC : zs_CX f π fr P N G g b o R sb mk C I L rw0 lg) (hD : zs_Dm I L Y q R Z sb mk o rw0 pa0 ca0 lo0)
    (hq : ∀ J K n s ps c, zs_BI f π fr P N G g b o Y q R Z sb mk I L rw0 pa0 ca0 lo0 J K n s ps c n 0 → J 22 15 = nI (zy_cnt (fun i => zs_unb f π P N fr G g (s i)) n) → J 22 16 = nI (zy_cnt (fun i => zs_nmb f π P N fr G g (s i)) n) → Qv (J, K, Y)) :
    zx_Cv l E (d + 4) 90 [.ref 22, .int (nI g)] (I, L, Y) Qv := by
  obtain ⟨⟨hF, hO, hG, hg⟩, hU, ⟨hb1, hb2⟩, hold, hcap, cR, cS, cM⟩ := id hC
  have hP := hF.1
  have G6 := hG.1
  have hN := hO.1
  have hf : ∀ p, p < P → zy_len (f p) ≤ 8 := fun p hp => zs_F8 hF (by omega)
  have nq := (zs_Q_ne hD.1).2.2.2.2
  have q6 := nq 6 (by omega) (by omega)
  have q7 := nq 7 (by omega) (by omega)
  have q8 := nq 8 (by omega) (by omega)
  have q9 := nq 9 (by omega) (by omega)
  have q5 := nq 5 (by omega) (by omega)
  have e12 := hD.2.1.1.2.2
  have R6 := hD.1.2.2.2.2.1
  have stV : zh_V f P b (zh_A (zs_g f π N fr G) g) (zg_st f P) := zh_V_st hf
  have c1 := hcap [zg_st f P] (List.nodup_cons.mpr ⟨fun h => (by cases h), List.nodup_nil⟩) (fun t ht => by rw [List.mem_singleton.mp ht]; exact stV)
  have c1 : 1 ≤ C := c1
  have loop : ∀ r a, a + r = C → ∀ J K n s ps c, zs_BI f π fr P N G g b o Y q R Z sb mk I L rw0 pa0 ca0 lo0 J K n s ps c a 0 → J 22 15 = nI (zy_cnt (fun i => zs_unb f π P N fr G g (s i)) a) → J 22 16 = nI (zy_cnt (fun i => zs_nmb f π P N fr G g (s i)) a) →
      zx_To l E (d + 4) 90 28 [some (.ref 22), none, none, some (.int (nI (o + a)))] [] (J, K, Y) (fun r M' => r = none ∧ Qv M') := by
    intro r
    induction r with
    | zero =>
      intro a ha J K n s ps c hB h15 h16
      have hn : n ≤ C := by
        have nd := zh_nd (s := s) (p := fun _ => true) hB.2.2.1.2.1
        rw [List.filter_eq_self.mpr (fun _ _ => rfl)] at nd
        have := hcap _ nd (fun t ht => by
          obtain ⟨i, hi, e⟩ := List.mem_map.mp ht
          rw [← e]; exact (hB.2.1 i (List.mem_range.mp hi)).1)
        rw [List.length_map, List.length_range] at this
        exact this
      have han := hB.2.2.1.1.2.2.2.1
      have ean : a = n := by omega
      obtain ⟨rw, pa, ca, lo, hD', -⟩ := hB.1
      have e12' := hD'.2.1.1.2.2
      have nfR := hD'.2.2.1
      refine sg_90_28 hY _ ⟨fun _ => ⟨rfl, ?_⟩, fun h => absurd (by rw [e12']; exact (nI_leI (by omega) (by omega)).mpr (by omega)) h⟩
      subst ean
      exact hq J K a s ps c hB h15 h16
    | succ r ih =>
      intro a ha J K n s ps c hB h15 h16
      have han := hB.2.2.1.1.2.2.2.1
      obtain ⟨rw, pa, ca, lo, hD', -⟩ := hB.1
      have e12' := hD'.2.1.1.2.2
      have nfR := hD'.2.2.1
      have c5 := hD'.1.2.1.1
      refine sg_90_28 hY _ ?_
      rw [e12', nI_leI (by omega) (by omega)]
      refine ⟨fun h => ⟨rfl, ?_⟩, fun h => ⟨q 5, hD'.1.1 5 (by omega) (by omega), zs_ce_ar c5 (by omega) (by omega), ?_⟩⟩
      · have ean : a = n := by omega
        subst ean
        exact hq J K a s ps c hB h15 h16
      · rw [(zs_ce_is c5).2, show Int32.ofNat R = nI R from rfl, nI_leI (by omega) (by omega)]
        refine ⟨fun h2 => absurd h2 (by omega), fun _ => ?_⟩
        refine zy_93 hY hC hB (by omega) h15 h16 (fun J' K' n' s' ps' c' g1 g2 g3 g4 g5 => ⟨hY, ?_⟩)
        rw [nI_1, Nat.add_assoc]
        refine ih (a + 1) (by omega) J' K' n' s' ps' c' g1 ?_ ?_
        · have e : zy_cnt (fun i => zs_unb f π P N fr G g (s' i)) a = zy_cnt (fun i => zs_unb f π P N fr G g (s i)) a := zy_cnt_cong (fun i hi => by rw [g3 i (by omega)])
          rw [g4, zy_cnt, g3 a (Nat.le_refl _), e]
          cases zs_unb f π P N fr G g (s a) <;> rfl
        · have e : zy_cnt (fun i => zs_nmb f π P N fr G g (s' i)) a = zy_cnt (fun i => zs_nmb f π P N fr G g (s i)) a := zy_cnt_cong (fun i hi => by rw [g3 i (by omega)])
          rw [g5, zy_cnt, g3 a (Nat.le_refl _), e]
          cases zs_nmb f π P N fr G g (s a) <;> rfl
  have el : ∀ a k, ¬ (a = 22 ∧ (k = 15 ∨ k = 16)) → zx_u2 (zx_u2 I 22 15 0) 22 16 0 a k = I a k := fun a k h => by rw [zy_u2_ne (by omega), zy_u2_ne (by omega)]
  have hU1 : zs_U (zx_u2 (zx_u2 I 22 15 0) 22 16 0) L f N π G fr lg := zs_U_cong hN hU (fun a k a1 a2 _ => el a k (by omega)) (fun _ _ _ _ => rfl)
  have hD1 : zs_Dm (zx_u2 (zx_u2 I 22 15 0) 22 16 0) L Y q R Z sb mk o rw0 pa0 ca0 lo0 := zs_Dm_cong hD (fun k => ⟨el _ _ (by omega), el _ _ (by omega), el _ _ (by omega), el _ _ (by omega)⟩) ⟨el _ _ (by omega), el _ _ (by omega), el _ _ (by omega)⟩
  have dl16 : ∀ i, i < 10 → zs_dl π fr g (zg_st f P) i < 16 := fun i hi => by have := zs_dl_lt hF hO hG hg stV.1 i hi; omega
  refine sg_90_0 hY _ (zy_91 hY hF hO hG hg hU1 ⟨hY, zy_95 (cv := 0) (lv := 0) (x3 := -1) (x4 := 0) hY hD1 (zs_r_lt (by omega) dl16) (fun i hi e => ?_) (fun _ => ⟨by omega, by omega, by omega, by omega, by omega, Or.inl ⟨rfl, rfl, rfl⟩⟩) (fun J K hno hfa hD2 => ⟨hY, ?_⟩)⟩)
  · exfalso
    obtain ⟨k, δ, k1, k2, k3⟩ := hold i hi
    rw [k3] at e
    have := zs_mark k2 (fun x hx => Nat.lt_of_lt_of_le (dl16 x hx) (by decide : 16 ≤ 32)) e
    omega
  · rw [e12]
    have stl : zg_ls f P (zg_st f P) = 0 := by
      have key : ∀ n, n ≤ P → zg_sm (fun p => zy_len (f p) - zg_d (zg_st f P) p) n = 0 := by
        intro n
        induction n with
        | zero => exact fun _ => rfl
        | succ n ih => intro hn; rw [zg_sm, ih (by omega), zg_st_d hf (by omega)]; omega
      exact key P (Nat.le_refl _)
    refine loop C 0 (by omega) J K 1 (fun _ => zg_st f P) (fun _ => 0) (fun _ => 0) ⟨⟨_, _, _, _, hD2, fun i hi => ?_, fun i hi => ?_⟩, fun i hi => ⟨stV, Nat.zero_le _⟩, zq_B_0 rfl rfl, fun x k x1 x2 x3 x4 x5 => ?_, fun x k x1 => hfa.2 x k x1⟩ ?_ ?_
    · rw [if_neg (by omega), if_neg (by omega), if_neg (by omega), if_neg (by omega)]; exact ⟨rfl, rfl, rfl, rfl⟩
    · dsimp only
      rw [show i = 0 by omega, Nat.add_zero, if_pos rfl, if_pos rfl, if_pos rfl, if_pos rfl, if_pos rfl, stl]
      exact ⟨rfl, rfl, rfl, rfl⟩
    · rw [hfa.1 x k x1 x2 x3 x4 (by omega)]; exact el x k (by omega)
    · rw [hfa.1 22 15 (by omega) (by omega) (by omega) (by omega) (by omega), zy_u2_nk (by omega), zy_u2_self]; rfl
    · rw [hfa.1 22 16 (by omega) (by omega) (by omega) (by omega) (by omega), zy_u2_self]; rfl
end YZ
/-- the search as it lies, up to group g -/
def zs_GT (f π fr : Nat → Nat) (P N G b : Nat) (g : Nat) (J : Nat → Nat → Int32) (K : Nat → Nat → Int64) (Y : zx_Y) (q : Nat → Nat) (R Z sb mk : Nat) (at_ ns : Nat → Nat) (ss pps cs : Nat → Nat → Nat) : Prop :=
  (∃ rw pa ca lo, zs_Dm J K Y q R Z sb mk (at_ g) rw pa ca lo ∧ ∀ h, h < g → ∀ j, j < ns h → rw (at_ h + j) = zs_r (h + 1) (zs_dl π fr h (ss h j)) ∧ pa (at_ h + j) = (if j = 0 then -1 else nI (at_ h + pps h j)) ∧ ca (at_ h + j) = cs h j ∧ lo (at_ h + j) = zg_ls f P (ss h j)) ∧
  (at_ 0 = 0 ∧ (∀ h, h < g → at_ (h + 1) = at_ h + ns h) ∧ ∀ h, h < g → J 62 h = nI (at_ h)) ∧
  ∀ h, h < g → (∀ j, j < ns h → zh_V f P b (zh_A (zs_g f π N fr G) h) (ss h j) ∧ cs h j ≤ zg_ls f P (ss h j)) ∧ zq_B (zg_st f P) (zs_nx f π P fr h b) (ss h) (pps h) (cs h) (ns h) (ns h) 0
theorem zs_at_sm {at_ ns : Nat → Nat} (h0 : at_ 0 = 0) : ∀ {g : Nat}, (∀ h, h < g → at_ (h + 1) = at_ h + ns h) → at_ g = zg_sm ns g
  | 0, _ => h0
  | g + 1, h => by rw [h g (by omega), zs_at_sm h0 (fun x hx => h x (by omega)), zg_sm]
theorem zs_at_in {at_ ns : Nat → Nat} (h0 : at_ 0 = 0) {i : Nat} : ∀ {g : Nat}, (∀ h, h < g → at_ (h + 1) = at_ h + ns h) → i < at_ g → ∃ h j, h < g ∧ j < ns h ∧ i = at_ h + j
  | 0, _, hi => by omega
  | g + 1, h, hi => by
    by_cases z : i < at_ g
    · obtain ⟨x, j, x1, x2, x3⟩ := zs_at_in h0 (fun x hx => h x (by omega)) z
      exact ⟨x, j, by omega, x2, x3⟩
    · have := h g (by omega)
      exact ⟨g, i - at_ g, by omega, by omega, by omega⟩
