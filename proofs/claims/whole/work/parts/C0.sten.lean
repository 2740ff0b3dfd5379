/-! ===== search: ten people, or P of them ===== -/
theorem zg_c_ext {g : Nat → Nat} {P : Nat} : ∀ {n : Nat}, P ≤ n → (∀ p, P ≤ p → p < n → g p = 0) → zg_c n g = zg_c P g
  | 0, h, _ => by rw [show P = 0 by omega]
  | n + 1, h, hz => by
    by_cases e : P = n + 1
    · rw [e]
    · rw [zg_c, zg_c_ext (n := n) (by omega) (fun p h1 h2 => hz p h1 (by omega)), hz n (by omega) (by omega), Nat.zero_mul, Nat.add_zero]
theorem zg_sm_ext {g : Nat → Nat} {P : Nat} : ∀ {n : Nat}, P ≤ n → (∀ p, P ≤ p → p < n → g p = 0) → zg_sm g n = zg_sm g P
  | 0, h, _ => by rw [show P = 0 by omega]
  | n + 1, h, hz => by
    by_cases e : P = n + 1
    · rw [e]
    · rw [zg_sm, zg_sm_ext (n := n) (by omega) (fun p h1 h2 => hz p h1 (by omega)), hz n (by omega) (by omega), Nat.add_zero]
theorem zg_al_ext {w : Nat → Bool} {P : Nat} : ∀ {n : Nat}, P ≤ n → (∀ p, P ≤ p → p < n → w p = true) → zg_al w n = zg_al w P
  | 0, h, _ => by rw [show P = 0 by omega]
  | n + 1, h, hz => by
    by_cases e : P = n + 1
    · rw [e]
    · rw [zg_al, zg_al_ext (n := n) (by omega) (fun p h1 h2 => hz p h1 (by omega)), hz n (by omega) (by omega), Bool.and_true]
theorem zg_al_cong {w w' : Nat → Bool} : ∀ {n : Nat}, (∀ p, p < n → w p = w' p) → zg_al w n = zg_al w' n
  | 0, _ => rfl
  | n + 1, h => by rw [zg_al, zg_al, zg_al_cong (n := n) (fun p hp => h p (by omega)), h n (by omega)]
theorem zv_find {w : Nat → Bool} {P : Nat} : ∀ {n : Nat}, P ≤ n → (∀ p, P ≤ p → p < n → w p = false) → (List.range n).find? w = (List.range P).find? w
  | 0, h, _ => by rw [show P = 0 by omega]
  | n + 1, h, hz => by
    by_cases e : P = n + 1
    · rw [e]
    · rw [List.range_succ, List.find?_append, zv_find (n := n) (by omega) (fun p h1 h2 => hz p h1 (by omega)), List.find?_cons, hz n (by omega) (by omega)]
      cases (List.range P).find? w <;> rfl
theorem zq_B_cong {st : Nat} {nx nx' : Nat → List Nat} {s p c : Nat → Nat} {n : Nat} (h : zq_B st nx s p c n n 0) (e : ∀ i, i < n → nx' (s i) = nx (s i)) : zq_B st nx' s p c n n 0 := by
  obtain ⟨⟨h1, h2, h3, h4, h5⟩, g1, g2, ⟨g3, g4⟩, g5⟩ := h
  refine ⟨⟨h1, h2, h3, h4, h5⟩, g1, fun i i0 hi => ?_, ⟨fun i hi t ht => ?_, fun x t hx => by omega⟩, fun i k i0 hik hk => ?_⟩
  · obtain ⟨q1, q2, q3, q5, q6⟩ := g2 i i0 hi
    rw [e _ (by omega)]
    refine ⟨q1, q2, q3, q5, fun k hk => ?_⟩
    rw [e k (by omega)]; exact q6 k hk
  · rw [e i hi] at ht; exact g3 i hi t ht
  · obtain ⟨q1, -⟩ := g2 i i0 (by omega)
    rw [e _ (by omega)]; exact g5 i k i0 hik hk
section TE
variable {f π fr : Nat → Nat} {P N G g b t p : Nat} {A : Nat → Bool}
theorem zv_10 (hF : zs_F f P) : zs_F f 10 := ⟨Nat.le_refl _, hF.2.1, fun p h1 h2 => by omega⟩
theorem zv_z (hF : zs_F f P) (hS : zg_S f 10 t) : ∀ p, P ≤ p → p < 10 → zg_d t p = 0 := fun p h1 h2 => by
  have := hS.2 p h2
  rw [hF.2.2 p h1 h2, zy_len_0] at this; omega
theorem zv_S (hF : zs_F f P) (hS : zg_S f 10 t) : zg_S f P t := by
  have hP := hF.1
  refine ⟨?_, fun p hp => hS.2 p (by omega)⟩
  have e1 := zg_c_d (P := 10) (s := t)
  rw [Nat.mod_eq_of_lt hS.1, zg_c_ext hP (zv_z hF hS), zg_c_d] at e1
  have := Nat.mod_lt t (Nat.pow_pos (n := P) (show 0 < 16 by omega))
  omega
theorem zv_st (hF : zs_F f P) : zg_st f 10 = zg_st f P := by
  unfold zg_st
  exact zg_c_ext hF.1 (fun p h1 h2 => by rw [hF.2.2 p h1 h2, zy_len_0])
theorem zv_hi (hS : zg_S f P t) (h : P ≤ p) : zg_d t p = 0 := zg_d_hi hS.1 h
theorem zv_m (hF : zs_F f P) (hS : zg_S f P t) (hp : p < P) (hd : 0 < zg_d t p) : zg_m f 10 t p = zg_m f P t p := by
  have hP := hF.1
  funext q
  refine zb_ext ?_
  rw [zg_m_iff, zg_m_iff]
  refine ⟨fun ⟨h1, h2⟩ => ⟨?_, h2⟩, fun ⟨h1, h2⟩ => ⟨by omega, h2⟩⟩
  by_cases z : q < P
  · exact z
  · exfalso
    have e := congrArg zy_len h2
    rw [zg_n_len (hS.2 p hp)] at e
    unfold zg_n at e
    rw [hF.2.2 q (by omega) h1, zy_len_pf, zy_len_0] at e
    omega
theorem zv_cnt (hF : zs_F f P) (hS : zg_S f P t) (hp : p < P) (hd : 0 < zg_d t p) : zy_cnt (zg_m f 10 t p) 10 = zy_cnt (zg_m f P t p) P := by
  rw [zv_m hF hS hp hd]
  exact zy_cnt_ext hF.1 (fun q h1 h2 => by unfold zg_m; rw [decide_eq_false (by omega)]; rfl)
theorem zv_to (hF : zs_F f P) (hS : zg_S f P t) (hp : p < P) (hd : 0 < zg_d t p) : zh_to f 10 t p = zh_to f P t p := by
  unfold zh_to
  rw [zv_m hF hS hp hd]
  unfold zg_mv
  exact zg_c_ext hF.1 (fun q h1 h2 => by rw [zv_hi hS h1]; omega)
theorem zv_ls (hF : zs_F f P) : zg_ls f 10 t = zg_ls f P t := by
  unfold zg_ls
  exact zg_sm_ext hF.1 (fun p h1 h2 => by rw [hF.2.2 p h1 h2, zy_len_0]; omega)
theorem zv_nx (hF : zs_F f P) (hO : zs_Om f 10 N π) (hG : zs_Gr f π N G fr) (hg : g < G) (hS : zg_S f P t) : zs_nx f π 10 fr g b t = zs_nx f π P fr g b t := by
  unfold zs_nx
  refine List.map_congr_left (fun x _ => ?_)
  unfold zs_ch
  have key : ∀ i, zs_in fr g i = true → zg_d t (π i) = x / 10 + 1 → π i < P ∧ 0 < zg_d t (π i) := fun i h1 h2 => ⟨zs_πP hF hO (zs_inN hG hg h1), by omega⟩
  have e : zs_cl f π 10 fr g b t (x / 10 + 1) (x % 10) = zs_cl f π P fr g b t (x / 10 + 1) (x % 10) := by
    refine zb_ext ?_
    rw [zs_cl_iff, zs_cl_iff]
    constructor
    · rintro ⟨h1, h2, h3, h4⟩
      obtain ⟨k1, k2⟩ := key _ h1 h2
      exact ⟨h1, h2, h3, by rw [← zv_cnt hF hS k1 k2]; exact h4⟩
    · rintro ⟨h1, h2, h3, h4⟩
      obtain ⟨k1, k2⟩ := key _ h1 h2
      exact ⟨h1, h2, h3, by rw [zv_cnt hF hS k1 k2]; exact h4⟩
  rw [e]
  cases hc : zs_cl f π P fr g b t (x / 10 + 1) (x % 10) with
  | false => rw [if_neg (by decide), if_neg (by decide)]
  | true =>
    obtain ⟨h1, h2, -⟩ := zs_cl_iff.mp hc
    obtain ⟨k1, k2⟩ := key _ h1 h2
    rw [if_pos rfl, if_pos rfl, zv_to hF hS k1 k2]
theorem zv_kc (hF : zs_F f P) {s c : Nat → Nat} : zg_kc f 10 s c = zg_kc f P s c := by
  funext i; unfold zg_kc; rw [zv_ls hF]
theorem zv_kl (hF : zs_F f P) {s c : Nat → Nat} : zg_kl f 10 s c = zg_kl f P s c := by
  funext i; unfold zg_kl; rw [zv_ls hF]
theorem zv_unb (hF : zs_F f P) (hO : zs_Om f 10 N π) (hG : zs_Gr f π N G fr) (hg : g < G) (hS : zg_S f P t) : zs_unb f π 10 N fr G g t = zs_unb f π P N fr G g t := by
  refine zb_ext ?_
  rw [zs_unb_iff (zv_10 hF) hO hG hg, zs_unb_iff hF hO hG hg]
  constructor
  · intro h i h1 h2 h3
    rw [← zv_cnt hF hS (zs_πP hF hO h1) h3]; exact h i h1 h2 h3
  · intro h i h1 h2 h3
    rw [zv_cnt hF hS (zs_πP hF hO h1) h3]; exact h i h1 h2 h3
theorem zv_nmb (hF : zs_F f P) (hO : zs_Om f 10 N π) (hG : zs_Gr f π N G fr) (hg : g < G) : zs_nmb f π 10 N fr G g t = zs_nmb f π P N fr G g t := by
  refine zb_ext ?_
  rw [zs_nmb_iff (zv_10 hF) hO hG hg, zs_nmb_iff hF hO hG hg]
theorem zv_mp {t u : Nat} (hF : zs_F f P) (hS : zg_S f P t) : zh_mp 10 t u = zh_mp P t u := by
  unfold zh_mp
  rw [zv_find hF.1 (fun p h1 h2 => by rw [zv_hi hS h1]; exact decide_eq_false (by omega))]
/-- the search of the class, for P people -/
def zv_O (f π fr : Nat → Nat) (P N G b : Nat) (ns : Nat → Nat) (ss pps cs : Nat → Nat → Nat) : Prop :=
  (zs_F f P ∧ zs_Om f 10 N π ∧ zs_Gr f π N G fr) ∧ (∀ g, g < G → ∀ j, j < ns g → zg_S f P (ss g j) ∧ cs g j ≤ zg_ls f P (ss g j)) ∧ zh_SB f P b G (zs_g f π N fr G) ns ss pps cs (fun g => zs_nx f π P fr g b)
theorem zv_of' {J : Nat → Nat → Int32} {K : Nat → Nat → Int64} {Y : zx_Y} {q : Nat → Nat} {R Z sb mk : Nat} {at_ ns : Nat → Nat} {ss pps cs : Nat → Nat → Nat} (hF : zs_F f P) (hO : zs_Om f 10 N π) (hG : zs_Gr f π N G fr) (h : zs_GT f π fr 10 N G b G J K Y q R Z sb mk at_ ns ss pps cs) : zv_O f π fr P N G b ns ss pps cs := by
  obtain ⟨-, -, h5⟩ := h
  refine ⟨⟨hF, hO, hG⟩, fun g hg j hj => ?_, fun g hg => ⟨zs_zh_nx hF hO hG hg, zs_zh_ord hF hO hG hg, ?_⟩⟩
  · obtain ⟨a, b⟩ := (h5 g hg).1 j hj
    rw [zv_ls hF] at b
    exact ⟨zv_S hF a.1, b⟩
  · rw [← zv_st hF]
    refine zq_B_cong (h5 g hg).2 (fun i hi => ?_)
    exact (zv_nx hF hO hG hg (zv_S hF ((h5 g hg).1 i hi).1.1)).symm
theorem zv_TT {n : Nat} {s ps c : Nat → Nat} {ns : Nat → Nat} {ss pps cs : Nat → Nat → Nat} (hO : zv_O f π fr P N G b ns ss pps cs) (ht : zg_tab f P b n s ps c) : zh_TT f P b G (zs_g f π N fr G) n s c ns ss cs := by
  obtain ⟨⟨hF, hO', hG⟩, -, hs⟩ := hO
  exact zh_TT_of (fun p hp => zs_F8 hF (by have := hF.1; omega)) hF.1 (zs_zh_G hF hO' hG) ht hs
/-- too many, or not, for both -/
theorem zv_many {n : Nat} {s ps c : Nat → Nat} (hF : zs_F f P) (hO : zs_Om f 10 N π) (ht : zg_tab f P b n s ps c) : n = zs_nV f π N b ∧ n ≤ 20000 :=
  ⟨zs_nV_T hF hO (zh_T_of (zg_st_S (fun p hp => zs_F8 hF (by have := hF.1; omega))) (zh_nx_ref hF.1) ht.2.1), ht.1⟩
theorem zv_wy (hF : zs_F f P) {s ps c : Nat → Nat} {nx : Nat → List Nat} {n w : Nat} (hB : zq_B (zg_st f P) nx s ps c n n 0) (hS : ∀ i, i < n → zg_S f P (s i)) (hw : w < n) : zh_wy f 10 s ps c w = zh_wy f P s ps c w := by
  funext j
  unfold zh_wy
  by_cases e : j < c w
  · rw [if_pos e, if_pos e, zv_mp hF (hS _ (zq_up_c hB (c w - j) w hw (by omega)).1)]
  · rw [if_neg e, if_neg e]
end TE
section TL
variable {f π fr : Nat → Nat} {P N G b n : Nat} {s ps c : Nat → Nat} {ns : Nat → Nat} {ss pps cs : Nat → Nat → Nat}
/-- the counts -/
theorem zv_states (hO : zv_O f π fr P N G b ns ss pps cs) (ht : zg_tab f P b n s ps c) : n = zg_pr ns G ∧ zy_cnt (fun i => zg_al (zg_un f P (s i)) P) n = zg_pr (zs_cu f π fr 10 N G ns ss) G ∧ zy_cnt (fun i => decide (s i = 0)) n = zg_pr (zs_cn f π fr 10 N G ns ss) G := by
  have hT := zv_TT hO ht
  obtain ⟨⟨hF, hO', hG⟩, hr, hs⟩ := hO
  have hf : ∀ p, p < P → zy_len (f p) ≤ 8 := hT.1
  have zG := hT.2.1
  have hP := hF.1
  have G6 := hG.1
  refine ⟨zh_n hT, ?_, ?_⟩
  · rw [zh_count hT (Q := fun t => zg_al (zg_un f P t) P) (q := fun g t => zs_unb f π P N fr G g t) (fun i hi => ?_)]
    · refine zg_pr_cong (fun g hg => ?_)
      unfold zs_cu
      exact zy_cnt_cong (fun j hj => (zv_unb hF hO' hG hg (hr g hg j hj).1).symm)
    · have iS := (hT.2.2.1.2.1 i hi).1
      have un : ∀ g p, g < G → p < P → zs_g f π N fr G p = g → zg_un f P (zh_pj f P (zs_g f π N fr G) g (s i)) p = zg_un f P (s i) p := fun g p hg hp e => by
        unfold zg_un
        rw [zh_pj_d hf hp, if_pos e]
        by_cases z : 0 < zg_d (s i) p
        · rw [zh_m_ag (zh_sat_A (g := g) zG) iS (zh_pj_S hf iS) (zh_pj_ag hf) hp (zh_A_iff.mpr e) z]
        · rw [decide_eq_false z]; rfl
      constructor
      · intro h g hg
        unfold zs_unb
        rw [zg_al_iff] at h ⊢
        intro p hp
        cases e : zh_A (zs_g f π N fr G) g p with
        | false => rfl
        | true => rw [Bool.not_true, Bool.false_or, un g p hg hp (zh_A_iff.mp e)]; exact h p hp
      · intro h
        rw [zg_al_iff]
        intro p hp
        by_cases z : f p = 0
        · have := iS.2 p hp
          rw [z, zy_len_0] at this
          unfold zg_un
          rw [decide_eq_false (by omega)]; rfl
        · have hg := zG.1 p hp z
          have := h _ hg
          unfold zs_unb at this
          rw [zg_al_iff] at this
          have := this p hp
          rw [zh_A_iff.mpr rfl, Bool.not_true, Bool.false_or, un _ p hg hp rfl] at this
          exact this
  · rw [zh_count hT (Q := fun t => decide (t = 0)) (q := fun g t => zs_nmb f π P N fr G g t) (fun i hi => ?_)]
    · refine zg_pr_cong (fun g hg => ?_)
      unfold zs_cn
      exact zy_cnt_cong (fun j hj => (zv_nmb hF hO' hG hg).symm)
    · have iS := (hT.2.2.1.2.1 i hi).1
      rw [decide_eq_true_eq]
      constructor
      · intro h g hg
        unfold zs_nmb
        rw [zg_al_iff]
        intro p hp
        cases e : zh_A (zs_g f π N fr G) g p with
        | false => rfl
        | true =>
          rw [Bool.not_true, Bool.false_or, zh_pj_d hf hp, if_pos (zh_A_iff.mp e), h]
          exact decide_eq_true (by unfold zg_d; rw [Nat.zero_div])
      · intro h
        refine zg_ext iS.1 (Nat.pow_pos (by omega)) (fun p hp => ?_)
        rw [show zg_d 0 p = 0 by unfold zg_d; rw [Nat.zero_div]]
        by_cases z : f p = 0
        · have := iS.2 p hp
          rw [z, zy_len_0] at this; omega
        · have hg := zG.1 p hp z
          have := h _ hg
          unfold zs_nmb at this
          rw [zg_al_iff] at this
          have := this p hp
          rw [zh_A_iff.mpr rfl, Bool.not_true, Bool.false_or, zh_pj_d hf hp, if_pos rfl, decide_eq_true_eq] at this
          exact this
/-- a state of the group, by its letters -/
theorem zv_raw (hO : zv_O f π fr P N G b ns ss pps cs) {g j y : Nat} (hg : g < G) (hj : j < ns g) (hy : zg_S f P y) : zs_r (g + 1) (zs_dl π fr g (ss g j)) = zs_r (g + 1) (zs_dl π fr g y) ↔ ss g j = zh_pj f P (zs_g f π N fr G) g y := by
  obtain ⟨⟨hF, hO', hG⟩, hr, hs⟩ := hO
  have hP := hF.1
  have hf : ∀ p, p < P → zy_len (f p) ≤ 8 := fun p hp => zs_F8 hF (by omega)
  have jV := zh_W_V hf (zh_sat_A (g := g) (zs_zh_G hF hO' hG)) ((zh_T_of (zg_st_S hf) (hs g hg).1 (hs g hg).2.2).2.1 j hj).2
  constructor
  · intro e
    rw [zs_r_eq, zs_r_eq] at e
    have d32 : ∀ s i, zs_dl π fr g s i < 32 := fun s i => by
      unfold zs_dl
      have := zg_d_lt (s := s) (p := π i)
      split <;> omega
    have e := zs_inj (fun i _ => d32 (ss g j) i) (fun i _ => d32 y i) (show zs_c 10 (zs_dl π fr g (ss g j)) = zs_c 10 (zs_dl π fr g y) by omega)
    refine zg_ext jV.1.1 (zh_pj_S hf hy).1 (fun p hp => ?_)
    rw [zh_pj_d hf hp]
    by_cases z : zs_g f π N fr G p = g
    · rw [if_pos z]
      obtain ⟨i, i1, i2, i3⟩ := zs_g_in hF hO' hG hg hp z
      have := e i (by have := hO'.1; omega)
      unfold zs_dl at this
      rw [i2, if_pos rfl, if_pos rfl, i3] at this
      exact this
    · rw [if_neg z]; exact jV.2.2 p hp (Or.inl (zh_A_not.mpr z))
  · intro e
    refine zs_r_cong (fun i _ => ?_)
    unfold zs_dl
    cases h : zs_in fr g i with
    | false => rfl
    | true =>
      rw [if_pos rfl, if_pos rfl, e, zh_pj_d hf (zs_πP hF hO' (zs_inN hG hg h)), if_pos (zs_in_g hO' hG hg h)]
theorem zv_comes (hO : zv_O f π fr P N G b ns ss pps cs) (ht : zg_tab f P b n s ps c) {y : Nat} (hy : zg_S f P y) : (∀ i, i < n → s i = y → ∀ B : Nat → Nat, (∀ g, g < G → B g < ns g ∧ zs_r (g + 1) (zs_dl π fr g (ss g (B g))) = zs_r (g + 1) (zs_dl π fr g y)) → c i = zg_sm (fun g => cs g (B g)) G) ∧
    (∀ i, i < n → s i = y → ∀ g, g < G → ∃ j, j < ns g ∧ zs_r (g + 1) (zs_dl π fr g (ss g j)) = zs_r (g + 1) (zs_dl π fr g y)) ∧ ((∀ i, i < n → s i ≠ y) → ∀ B : Nat → Nat, ¬ ∀ g, g < G → B g < ns g ∧ zs_r (g + 1) (zs_dl π fr g (ss g (B g))) = zs_r (g + 1) (zs_dl π fr g y)) := by
  have hT := zv_TT hO ht
  refine ⟨fun i hi e B hB => ?_, fun i hi e g hg => ?_, fun hno B hB => ?_⟩
  · refine zh_c_sum hT hi (fun g hg => ⟨(hB g hg).1, ?_⟩)
    rw [e]; exact (zv_raw hO hg (hB g hg).1 hy).mp (hB g hg).2
  · obtain ⟨r, r1, r2⟩ := zh_r_ex hT hi hg
    rw [e] at r2
    exact ⟨r, r1, (zv_raw hO hg r1 hy).mpr r2⟩
  · obtain ⟨i, i1, i2⟩ := zh_i_ex hT (r := B) (fun g hg => (hB g hg).1)
    refine hno i i1 (zh_jn_pj hT.1 hT.2.1 (hT.2.2.1.2.1 i i1).1 hy (fun g hg => ?_))
    rw [i2 g hg]; exact (zv_raw hO hg (hB g hg).1 hy).mp (hB g hg).2
/-- the dues, by groups -/
theorem zv_due (hO : zv_O f π fr P N G b ns ss pps cs) (ht : zg_tab f P b n s ps c) {y : Nat} (hy : ∀ p, p < P → zg_d y p ≤ zy_len (f p)) : ∀ i, i < n → (zg_al (zg_due f s y i) P = true ↔ ∀ g, g < G → zs_wb (fun i => if i < N then zy_len (f (π i)) - zg_d y (π i) else 0) (fun _ => 0) false (zs_in fr g) (zs_dl π fr g (zh_pj f P (zs_g f π N fr G) g (s i))) = true) := by
  have hT := zv_TT hO ht
  obtain ⟨⟨hF, hO', hG⟩, hr, hs⟩ := hO
  have hf := hT.1
  have zG := hT.2.1
  have hP := hF.1
  intro i hi
  have iS := (hT.2.2.1.2.1 i hi).1
  rw [zg_al_iff]
  have dl : ∀ g x, g < G → zs_in fr g x = true → zs_dl π fr g (zh_pj f P (zs_g f π N fr G) g (s i)) x = zg_d (s i) (π x) := fun g x hg h => by
    unfold zs_dl
    rw [h, if_pos rfl, zh_pj_d hf (zs_πP hF hO' (zs_inN hG hg h)), if_pos (zs_in_g hO' hG hg h)]
  constructor
  · intro h g hg
    refine zs_wb_iff.mpr ⟨fun x hx => ?_, fun z => by cases z⟩
    cases e : zs_in fr g x with
    | false => unfold zs_dl; rw [e, if_neg (by decide)]; exact Nat.zero_le _
    | true =>
      have hxN := zs_inN hG hg e
      rw [dl g x hg e, if_pos hxN]
      have hp := zs_πP hF hO' hxN
      have := h _ hp
      unfold zg_due at this
      rw [decide_eq_true_eq] at this
      have := iS.2 _ hp
      have := hy _ hp
      omega
  · intro h p hp
    unfold zg_due
    rw [decide_eq_true_eq]
    by_cases z : f p = 0
    · have := hy p hp
      rw [z, zy_len_0] at this ⊢
      omega
    · have hg := zG.1 p hp z
      obtain ⟨x, x1, x2, x3⟩ := zs_g_in hF hO' hG hg hp rfl
      have := (zs_wb_iff.mp (h _ hg)).1 x (by have := hO'.1; omega)
      rw [dl _ x hg x2, if_pos x1, x3] at this
      have := iS.2 p hp
      have := hy p hp
      omega
/-- the sides, by groups -/
theorem zv_side (hO : zv_O f π fr P N G b ns ss pps cs) (ht : zg_tab f P b n s ps c) {S : Nat} {sd : Nat → Nat} (hsd : ∀ p, p < P → sd p = (S.testBit p).toNat) (hz : ∀ p, p < P → f p = 0 → S.testBit p = true) : ∀ i, i < n → (zg_al (zg_ov f s sd i) P = true ↔ ∀ g, g < G → zs_wb (fun i => if i < N then zy_len (f (π i)) else 0) (fun i => if i < N then (zy_len (f (π i)) + (S.testBit (π i)).toNat + 1) % 2 else 0) true (zs_in fr g) (zs_dl π fr g (zh_pj f P (zs_g f π N fr G) g (s i))) = true) := by
  have hT := zv_TT hO ht
  obtain ⟨⟨hF, hO', hG⟩, hr, hs⟩ := hO
  have hf := hT.1
  have zG := hT.2.1
  have hP := hF.1
  intro i hi
  have iS := (hT.2.2.1.2.1 i hi).1
  rw [zg_al_iff]
  have dl : ∀ g x, g < G → zs_in fr g x = true → zs_dl π fr g (zh_pj f P (zs_g f π N fr G) g (s i)) x = zg_d (s i) (π x) := fun g x hg h => by
    unfold zs_dl
    rw [h, if_pos rfl, zh_pj_d hf (zs_πP hF hO' (zs_inN hG hg h)), if_pos (zs_in_g hO' hG hg h)]
  constructor
  · intro h g hg
    refine zs_wb_iff.mpr ⟨fun x hx => ?_, fun _ x hx e => ?_⟩
    · cases e : zs_in fr g x with
      | false => unfold zs_dl; rw [e, if_neg (by decide)]; exact Nat.zero_le _
      | true =>
        have hxN := zs_inN hG hg e
        rw [dl g x hg e, if_pos hxN]
        exact iS.2 _ (zs_πP hF hO' hxN)
    · have hxN := zs_inN hG hg e
      rw [dl g x hg e, if_pos hxN]
      have hp := zs_πP hF hO' hxN
      have := h _ hp
      unfold zg_ov at this
      rw [decide_eq_true_eq, hsd _ hp] at this
      have := iS.2 _ hp
      omega
  · intro h p hp
    unfold zg_ov
    rw [decide_eq_true_eq, hsd p hp]
    by_cases z : f p = 0
    · rw [hz p hp z, z, zy_len_0, Nat.zero_sub]; rfl
    · have hg := zG.1 p hp z
      obtain ⟨x, x1, x2, x3⟩ := zs_g_in hF hO' hG hg hp rfl
      have := (zs_wb_iff.mp (h _ hg)).2 rfl x (by have := hO'.1; omega) x2
      rw [dl _ x hg x2, if_pos x1, x3] at this
      have := iS.2 p hp
      omega
end TL
