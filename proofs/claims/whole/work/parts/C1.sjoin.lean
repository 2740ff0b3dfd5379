/-! ===== search: class = reference, what all need ===== -/
theorem zs_S1_cong {I J : Nat → Nat → Int32} {L K : Nat → Nat → Int64} {Y Y' : zx_Y} {f : Nat → Nat} {B k z : Nat} (h : zs_S1 I L Y f B k) (hJ : ∀ a x, (22 ≤ a ∧ a ≤ 62) ∨ (71 ≤ a ∧ a ≤ 75) ∨ (160 ≤ a ∧ a < Y.2.2.2.1) → J a x = I a x) (hK : ∀ a x, (23 ≤ a ∧ a ≤ 62) ∨ (71 ≤ a ∧ a ≤ 75) ∨ (160 ≤ a ∧ a < Y.2.2.2.1) → K a x = L a x)
    (y1 : ∀ x, 5 ≤ x → x ≤ 9 → Y'.1 22 x = Y.1 22 x) (y2 : ∀ i, i < Y.2.2.2.1 → Y'.2.1 i = Y.2.1 i ∧ Y'.2.2.1 i = Y.2.2.1 i) (y3 : Y.2.2.2.1 ≤ Y'.2.2.2.1) (y4 : Y'.2.2.2.2 = Y.2.2.2.2 + z) : zs_S1 J K Y' f (B + z) k := by
  obtain ⟨N, π, G, fr, lg, q, R, Z, mk, nf, ⟨a1, a2, a3, a4⟩, ⟨a5, a6⟩, ⟨b1, b2, b3, b4⟩, ⟨c1, c2⟩, c3⟩ := h
  have N10 := a2.1
  have G6 := a3.1
  have ce : ∀ {i kd ln}, zs_ce Y i kd ln → zs_ce Y' i kd ln := fun {i kd ln} h => ⟨h.1, by have := h.2.1; omega, by rw [(y2 i h.2.1).1]; exact h.2.2.1, by rw [(y2 i h.2.1).2]; exact h.2.2.2⟩
  have hQ : zs_Q Y' q R Z := ⟨fun x x1 x2 => by rw [y1 x x1 x2]; exact b1.1 x x1 x2, ⟨ce b1.2.1.1, ce b1.2.1.2.1, ce b1.2.1.2.2.1, ce b1.2.1.2.2.2.1, ce b1.2.1.2.2.2.2⟩, b1.2.2⟩
  have nq := (zs_Q_ne b1).2.2.2.2
  obtain ⟨e5, e6, e7, e8, e9⟩ := b1.2.1
  have q5 := nq 5 (by omega) (by omega)
  have q6 := nq 6 (by omega) (by omega)
  have q7 := nq 7 (by omega) (by omega)
  have q8 := nq 8 (by omega) (by omega)
  have q9 := nq 9 (by omega) (by omega)
  have l5 := e5.2.1
  have l6 := e6.2.1
  have l7 := e7.2.1
  have l8 := e8.2.1
  have l9 := e9.2.1
  refine ⟨N, π, G, fr, lg, q, R, Z, mk, nf, ⟨a1, a2, a3, zs_U_cong N10 a4 (fun a x h1 h2 _ => hJ a x (by omega)) (fun a x h1 h2 => hK a x (by omega))⟩, ⟨fun p hp => by rw [hJ _ _ (by omega)]; exact a5 p hp, a6⟩, ⟨hQ, by rw [hJ _ _ (by omega)]; exact b2, by rw [hJ _ _ (by omega)]; exact b3, fun a ha => by rw [hJ _ _ (by omega)]; exact b4 a ha⟩, ⟨c1, ?_⟩, ?_⟩
  · obtain ⟨T, U, t1, t2⟩ := c2
    exact ⟨T, U, by omega, t2⟩
  · rcases c3 with w | ⟨b, w1, w2, w3, w4⟩
    · exact Or.inl (by rw [hJ _ _ (by omega)]; exact w)
    · refine Or.inr ⟨b, w1, w2, by rw [hJ _ _ (by omega)]; exact w3, ?_⟩
      rcases w4 with ⟨x1, x2⟩ | ⟨x1, sb, at_, ns, ss, pps, cs, x2, x3, x4, x5, x6, x7⟩
      · exact Or.inl ⟨x1, by rw [hJ _ _ (by omega)]; exact x2⟩
      · exact Or.inr ⟨x1, sb, at_, ns, ss, pps, cs, zs_GT_cong x2 hQ (fun x => ⟨hJ _ _ (by omega), hJ _ _ (by omega), hJ _ _ (by omega), hJ _ _ (by omega)⟩) ⟨hJ _ _ (by omega), hJ _ _ (by omega), hJ _ _ (by omega)⟩ (fun x => hK _ _ (by omega)) (fun h _ => hJ _ _ (by omega)), x3, by rw [hJ _ _ (by omega)]; exact x4, by rw [hJ _ _ (by omega)]; exact x5, by rw [hJ _ _ (by omega)]; exact x6, by rw [hJ _ _ (by omega)]; exact x7⟩
/-- the same memory layout -/
theorem zs_S1_same {I J : Nat → Nat → Int32} {L K : Nat → Nat → Int64} {Y : zx_Y} {f : Nat → Nat} {B k : Nat} (h : zs_S1 I L Y f B k) (hJ : ∀ a x, (22 ≤ a ∧ a ≤ 62) ∨ (71 ≤ a ∧ a ≤ 75) ∨ 160 ≤ a → J a x = I a x) (hK : ∀ a x, (23 ≤ a ∧ a ≤ 62) ∨ (71 ≤ a ∧ a ≤ 75) ∨ 160 ≤ a → K a x = L a x) : zs_S1 J K Y f B k :=
  zs_S1_cong (z := 0) h (fun a x h => hJ a x (by omega)) (fun a x h => hK a x (by omega)) (fun _ _ _ => rfl) (fun _ _ => ⟨rfl, rfl⟩) (Nat.le_refl _) rfl
/-- people as both have them -/
def zv_P (I : Nat → Nat → Int32) (P S b : Nat) (f : Nat → Nat) : Prop :=
  zs_F f P ∧ ((∀ p, p < 10 → I 9 p = nI (f p)) ∧ ∀ p, 10 ≤ p → f p = 0) ∧ zg_I I P f ∧ (I 8 7 = nI P ∧ I 8 8 = nI S ∧ S < 2 ^ P) ∧ (I 8 9 = nI b ∧ I 132 8 = nI b ∧ 1 ≤ b ∧ b ≤ 10) ∧ ∀ p, p < P → I 136 p = nI (S.testBit p).toNat
theorem zv_of {I : Nat → Nat → Int32} {P S b r : Nat} {H : List (Nat × Nat)} (hC : zc_C I P S b r H) : ∃ f, zv_P I P S b f := by
  obtain ⟨f, f1, f2, f3, f4⟩ := zc_nm hC
  obtain ⟨⟨hP, h7, h3⟩, -, hp, -, ⟨hS, h8⟩, ⟨b1, b2, b3, b4⟩, -⟩ := hC
  refine ⟨fun p => if p < 10 then f p else 0, ⟨hP, fun p hp => ?_, fun p h1 h2 => ?_⟩, ⟨fun p hp => ?_, fun p h => if_neg (by omega)⟩, ⟨hP, h3, fun p hp => ?_⟩, ⟨h7, h8, hS⟩, ⟨b3, b4, b1, b2⟩, fun p hp2 => ?_⟩
  · dsimp only; rw [if_pos hp]; exact ⟨(f1 p hp).2, f4 p hp⟩
  · dsimp only; rw [if_pos h2]; exact f3 p h1 h2
  · dsimp only; rw [if_pos hp]; exact (f1 p hp).1
  · dsimp only; rw [if_pos (by omega)]; exact f2 p hp
  · rw [(hp p hp2).2.2]
    cases S.testBit p <;> rfl
/-- what a call of the search leaves as it was -/
def zs_fj (I J : Nat → Nat → Int32) : Prop := ∀ a x, a < 160 → ¬ (22 ≤ a ∧ a ≤ 75) → a ≠ 7 → ¬ (a = 6 ∧ x = 1) → a ≠ 133 → ¬ (146 ≤ a ∧ a ≤ 149) → ¬ (a = 132 ∧ (x ≤ 1 ∨ x = 33 ∨ x = 34)) → J a x = I a x
/-- how a call of the search ends -/
def zs_En (I : Nat → Nat → Int32) (Y : zx_Y) (f : Nat → Nat) (B k : Nat) (Q : Int32 → zx_M → Prop) : Prop :=
  ∀ v J K Y' vs', zx_lay Y' → zc_R J vs' → zs_S1 J K Y' f B k → zs_fj I J → (∀ a x, a < 160 → a ≠ 22 → Y'.1 a x = Y.1 a x) → Y'.2.2.2.1 ≤ Y.2.2.2.1 + 5 → Q v (J, K, Y')
/-- the class's rows of all groups are no more than come -/
theorem zv_pr {f π fr : Nat → Nat} {P N G b : Nat} {ns : Nat → Nat} {ss pps cs : Nat → Nat → Nat} (hO : zv_O f π fr P N G b ns ss pps cs) : zg_pr ns G ≤ zs_nV f π N b := by
  obtain ⟨⟨hF, hO', hG⟩, hr, hs⟩ := hO
  have hP := hF.1
  have hf : ∀ p, p < P → zy_len (f p) ≤ 8 := fun p hp => zs_F8 hF (by omega)
  have zG := zs_zh_G hF hO' hG
  have hV : ∀ g, g < G → ∀ j, j < ns g → zh_V f P b (zh_A (zs_g f π N fr G) g) (ss g j) := fun g hg j hj => zh_W_V hf (zh_sat_A zG) ((zh_T_of (zg_st_S hf) (hs g hg).1 (hs g hg).2.2).2.1 j hj).2
  have hz : ∀ g, g < G → ∀ u, u ∈ (fun g => (List.range (ns g)).map (ss g)) g → zg_S f P u ∧ zh_pj f P (zs_g f π N fr G) g u = u := fun g hg u hu => by
    obtain ⟨j, hj, e⟩ := List.mem_map.mp hu
    have := hV g hg j (List.mem_range.mp hj)
    rw [e] at this
    exact ⟨this.1, zh_pj_self hf this⟩
  have hn : ∀ g, g < G → ((fun g => (List.range (ns g)).map (ss g)) g).Nodup := fun g hg => by
    have nd := zh_nd (s := ss g) (p := fun _ => true) (hs g hg).2.2.2.1
    rw [List.filter_eq_self.mpr (fun _ _ => rfl)] at nd
    exact nd
  have le := zs_nV_le hF hO' (zh_L_nd hf zG hz hn G (Nat.le_refl _)) (b := b) (fun t ht => by
    obtain ⟨t1, t2, -⟩ := (zh_L_mem hf zG hz G (Nat.le_refl _) t).mp ht
    refine zs_V_join hF hO' hG t1 (fun g hg => ?_)
    obtain ⟨j, hj, e⟩ := List.mem_map.mp (t2 g hg)
    rw [← e]; exact hV g hg j (List.mem_range.mp hj))
  rw [zh_L_len] at le
  have e : zg_pr (fun g => ((fun g => (List.range (ns g)).map (ss g)) g).length) G = zg_pr ns G := zg_pr_cong (fun g _ => by rw [List.length_map, List.length_range])
  rw [e] at le
  exact le
section YH
variable {l : Launch} {E : zx_E} {d : Nat} {I : Nat → Nat → Int32} {L : Nat → Nat → Int64} {Y : zx_Y} {Qo : Option Value → zx_M → Prop} {Q : Int32 → zx_M → Prop} {Ql : Int64 → zx_M → Prop} {Qv : zx_M → Prop} {f f0 : Nat → Nat} {P S b B k : Nat} {vs : List Int32}
/-- looking: too many, or a search as it lies -/
theorem zv_look (hY : zx_lay Y) (hp : zv_P I P S b f) (hS : zs_S1 I L Y f0 B k) (hk : k ≤ 600)
    (h3 : ∀ J K Y', zx_lay Y' → zs_S1 J K Y' f B (k + 1) → zs_fk I J L K → (∀ a x, a < 160 → a ≠ 22 → Y'.1 a x = Y.1 a x) → Y'.2.2.2.1 ≤ Y.2.2.2.1 + 5 → (∀ n s ps c, ¬ zg_tab f P b n s ps c) → Q (-3) (J, K, Y'))
    (h1 : ∀ J K Y' N π G fr lg q R Z sb mk at_ ns ss pps cs, zx_lay Y' → zs_S1 J K Y' f B (k + 1) → zs_fk I J L K → (∀ a x, a < 160 → a ≠ 22 → Y'.1 a x = Y.1 a x) → Y'.2.2.2.1 ≤ Y.2.2.2.1 + 5 → ¬ zg_many f P b → zs_Z f π fr N G b lg J K Y' q R Z sb mk at_ ns ss pps cs → zv_O f π fr P N G b ns ss pps cs → J 22 15 = nI (zg_pr (zs_cu f π fr 10 N G ns ss) G) → J 22 16 = nI (zg_pr (zs_cn f π fr 10 N G ns ss) G) → zg_pr ns G < 2 ^ 31 → Q (nI (zg_pr ns G)) (J, K, Y')) :
    zx_Ci l E (d + 6) 85 [.ref 22, .ref 8] (I, L, Y) Q := by
  obtain ⟨hF, ⟨h9, hz⟩, hI, ⟨h7, h8, hS2⟩, ⟨b3, b4, b1, b2⟩, hsd⟩ := hp
  refine zy_85 hY (zv_10 hF) h9 hz hS b3 b1 b2 hk (fun J K Y' v hY' h2 hv fk y1 y2 => ?_)
  have hS1 := zs_S2_1 b1 b2 h2
  obtain ⟨N, π, G, fr, lg, q, R, Z, mk, nf, ⟨a1, a2, a3, a4⟩, -, -, -, a5, a6⟩ := h2
  rcases a6 with ⟨c1, c2⟩ | ⟨c1, sb, at_, ns, ss, pps, cs, c2, c3, c4, c5, c6, c7⟩
  · rw [hv, c2]
    exact h3 J K Y' hY' hS1 fk y1 y2 (fun n s ps c ht => by
      obtain ⟨t1, t2⟩ := zv_many hF a2 ht
      omega)
  · have hO := zv_of' hF a2 a3 c2
    have := zv_pr hO
    rw [hv, c7]
    exact h1 J K Y' N π G fr lg q R Z sb mk at_ ns ss pps cs hY' hS1 fk y1 y2 (fun hm => by have := zs_nV_many hF a2 hm; omega) ⟨⟨a1, a2, a3, a4⟩, c2, fun g hg => by
      by_cases z : g = G
      · rw [z]; exact c4
      · exact c2.2.1.2.2 g (by omega)⟩ hO c5 c6 (by omega)
theorem zv_fj {J J' : Nat → Nat → Int32} {L' K K' : Nat → Nat → Int64} (h1 : zs_fk I J L' K) (h2 : zg_fz J J' K K') : zs_fj I J' := fun a x a1 a2 a3 a4 a5 a6 a7 => by
  rw [h2.1 a x (by omega) (by omega) (by omega) (by omega) (by omega) (by omega) (by omega)]; exact h1.1 a x a1 a2
/-- the reference keeps the class's search -/
theorem zv_S1z {J J' : Nat → Nat → Int32} {K K' : Nat → Nat → Int64} (h : zs_S1 J K Y f B k) (h2 : zg_fz J J' K K') : zs_S1 J' K' Y f B k :=
  zs_S1_same h (fun a x h => h2.1 a x (by omega) (by omega) (by omega) (by omega) (by omega) (by omega) (by omega)) (fun a x h => h2.2 a x (by omega))
theorem zv_Rz {J J' : Nat → Nat → Int32} {K K' : Nat → Nat → Int64} (h : zc_R J vs) (h2 : zg_fz J J' K K') : zc_R J' vs := by
  obtain ⟨r1, r2, r3, r4⟩ := h
  refine ⟨r1, by rw [h2.1 _ _ (by omega) (by omega) (by omega) (by omega) (by omega) (by omega) (by omega)]; exact r2, by rw [h2.1 _ _ (by omega) (by omega) (by omega) (by omega) (by omega) (by omega) (by omega)]; exact r3, fun j hj => ?_⟩
  rw [h2.1 7 j (by omega) (by omega) (by omega) (by omega) (by omega) (by omega) (by omega), h2.1 133 j (by omega) (by omega) (by omega) (by omega) (by omega) (by omega) (by omega)]
  exact r4 j hj
theorem zv_Rk {J : Nat → Nat → Int32} {L' K : Nat → Nat → Int64} (h : zc_R I vs) (h2 : zs_fk I J L' K) : zc_R J vs := by
  obtain ⟨r1, r2, r3, r4⟩ := h
  refine ⟨r1, by rw [h2.1 _ _ (by omega) (by omega)]; exact r2, by rw [h2.1 _ _ (by omega) (by omega)]; exact r3, fun j hj => ?_⟩
  rw [h2.1 7 j (by omega) (by omega), h2.1 133 j (by omega) (by omega)]
  exact r4 j hj
theorem zv_Ik {J : Nat → Nat → Int32} {L' K : Nat → Nat → Int64} (h : zv_P I P S b f) (h2 : zs_fk I J L' K) : zv_P J P S b f := by
  obtain ⟨hF, ⟨h9, hz⟩, ⟨i1, i2, i3⟩, ⟨h7, h8, hS2⟩, ⟨b3, b4, b1, b2⟩, hsd⟩ := h
  have hP := hF.1
  exact ⟨hF, ⟨fun p hp => by rw [h2.1 _ _ (by omega) (by omega)]; exact h9 p hp, hz⟩, ⟨i1, by rw [h2.1 _ _ (by omega) (by omega)]; exact i2, fun p hp => by rw [h2.1 _ _ (by omega) (by omega)]; exact i3 p hp⟩, ⟨by rw [h2.1 _ _ (by omega) (by omega)]; exact h7, by rw [h2.1 _ _ (by omega) (by omega)]; exact h8, hS2⟩, ⟨by rw [h2.1 _ _ (by omega) (by omega)]; exact b3, by rw [h2.1 _ _ (by omega) (by omega)]; exact b4, b1, b2⟩, fun p hp => by rw [h2.1 _ _ (by omega) (by omega)]; exact hsd p hp⟩
theorem zv_tell {J : Nat → Nat → Int32} {ws : List Int32} (h : zv_P J P S b f) : zv_P (zy_tell J ws) P S b f := by
  obtain ⟨hF, ⟨h9, hz⟩, ⟨i1, i2, i3⟩, ⟨h7, h8, hS2⟩, ⟨b3, b4, b1, b2⟩, hsd⟩ := h
  exact ⟨hF, ⟨fun p hp => by rw [zy_tell_el (by omega)]; exact h9 p hp, hz⟩, ⟨i1, by rw [zy_tell_el (by omega)]; exact i2, fun p hp => by rw [zy_tell_el (by omega)]; exact i3 p hp⟩, ⟨by rw [zy_tell_el (by omega)]; exact h7, by rw [zy_tell_el (by omega)]; exact h8, hS2⟩, ⟨by rw [zy_tell_el (by omega)]; exact b3, by rw [zy_tell_el (by omega)]; exact b4, b1, b2⟩, fun p hp => by rw [zy_tell_el (by omega)]; exact hsd p hp⟩
/-- both have told a row -/
theorem zv_told {J J' : Nat → Nat → Int32} {K K' : Nat → Nat → Int64} {ws : List Int32} (hl : ws.length ≤ 12) (h2 : zg_fz (zy_tell J ws) J' K K') : zc_R (zy_ent J' ws) ws :=
  zc_R_tell (I := J) hl (fun a x h => h2.1 a x (by omega) (by omega) (by omega) (by omega) (by omega) (by omega) (by omega))
theorem zv_fj2 {J J' : Nat → Nat → Int32} {L' K K' K'' : Nat → Nat → Int64} {ws : List Int32} (h1 : zs_fk I J L' K) (h2 : zg_fz (zy_tell J ws) J' K'' K') : zs_fj I (zy_ent J' ws) := fun a x a1 a2 a3 a4 a5 a6 a7 => by
  rw [zy_ent_el (by omega), h2.1 a x (by omega) (by omega) (by omega) (by omega) (by omega) (by omega) (by omega), zy_tell_el (by omega)]; exact h1.1 a x a1 a2
theorem zv_S1t {J J' : Nat → Nat → Int32} {K K' : Nat → Nat → Int64} {ws : List Int32} (h : zs_S1 J K Y f B k) (h2 : zg_fz (zy_tell J ws) J' K K') : zs_S1 (zy_ent J' ws) K' Y f B k :=
  zs_S1_same h (fun a x h => by rw [zy_ent_el (by omega), h2.1 a x (by omega) (by omega) (by omega) (by omega) (by omega) (by omega) (by omega), zy_tell_el (by omega)]) (fun a x h => h2.2 a x (by omega))
theorem zj_states (hY : zx_lay Y) {r : Nat} {H : List (Nat × Nat)} (hC : zc_C I P S b r H) (hR : zc_R I vs) (hS : zs_S1 I L Y f0 B k) (hk : k ≤ 600) (hq : ∀ f, zs_En I Y f B (k + 1) Q) :
    zx_Ci l E (d + 7) 141 [.ref 3] (I, L, Y) (fun v M1 => zx_lay M1.2.2 ∧ zx_Ci l E (d + 7) 240 [.ref 132] M1 (fun w M2 => w = v ∧ Q v M2)) := by
  obtain ⟨f, hp⟩ := zv_of hC
  refine sg_141_0 hY (zv_look hY hp hS hk (fun J K Y' hY' hS1 fk y1 y2 hno => ⟨hY', fun z => absurd z (by decide), fun _ => ⟨_, rfl, hY', ?_⟩⟩) (fun J K Y' N π G fr lg q R Z sb mk at_ ns ss pps cs hY' hS1 fk y1 y2 hno hZ hO e15 e16 lt => ⟨hY', fun _ => ?_, fun z => absurd (nI_pos' lt) z⟩))
  · have jp := zv_Ik hp fk
    refine zy_240 (d := d + 2) hY' jp.2.2.1 (by have := jp.2.2.2.2.1.2.2.2; omega) jp.2.2.2.2.1.2.1 (fun J' K' fz _ => ⟨rfl, ?_⟩) (fun n s ps c J' K' ht _ => absurd ht (hno n s ps c))
    exact hq f _ J' K' Y' vs hY' (zv_Rz (zv_Rk hR fk) fz) (zv_S1z hS1 fz) (zv_fj fk fz) y1 y2
  · refine zy_81 hY' ⟨hY', ?_⟩
    dsimp only
    rw [zy_tell_el (by omega), e15]
    refine zy_82 (vs := []) hY' (by decide) ⟨hY', ?_⟩
    dsimp only
    rw [zy_tell_el (by omega), e16]
    refine zy_82 (vs := [] ++ [_]) hY' (by simp) ⟨hY', _, rfl, hY', ?_⟩
    have jp := zv_tell (ws := [nI (zg_pr (zs_cu f π fr 10 N G ns ss) G), nI (zg_pr (zs_cn f π fr 10 N G ns ss) G)]) (zv_Ik hp fk)
    refine zy_240 (d := d + 2) hY' jp.2.2.1 (by have := jp.2.2.2.2.1.2.2.2; omega) jp.2.2.2.2.1.2.1 (fun J' K' fz hm => absurd hm hno) (fun n s ps c J' K' ht fz => ?_)
    obtain ⟨s1, s2, s3⟩ := zv_states hO ht
    rw [s2, s3]
    refine ⟨by rw [s1], ?_⟩
    exact hq f _ _ K' Y' _ hY' (zv_told (by simp) fz) (zv_S1t hS1 fz) (zv_fj2 fk fz) y1 y2
end YH
