/-! ===== search: whole and groups, the best and the way ===== -/
theorem zh_pick {G : Nat} {Φ : Nat → Nat → Prop} (h : ∀ g, g < G → ∃ r, Φ g r) : ∃ r : Nat → Nat, ∀ g, g < G → Φ g (r g) := by
  have ex : ∀ g, ∃ r, g < G → Φ g r := fun g => by
    by_cases z : g < G
    · obtain ⟨r, hr⟩ := h g z
      exact ⟨r, fun _ => hr⟩
    · exact ⟨0, fun q => absurd q z⟩
  exact ⟨fun g => Classical.choose (ex g), fun g hg => Classical.choose_spec (ex g) hg⟩
theorem zq_up_0 {st : Nat} {nx : Nat → List Nat} {s ps c : Nat → Nat} {n w : Nat} (hB : zq_B st nx s ps c n n 0) (hw : w < n) : zq_up ps (c w) w = 0 := by
  obtain ⟨v1, v2⟩ := zq_up_c hB (c w) w hw (Nat.le_refl _)
  by_cases z : zq_up ps (c w) w = 0
  · exact z
  · obtain ⟨-, -, -, q5, -⟩ := hB.2.2.1 _ (by omega) v1
    omega
theorem zh_up_gd {st : Nat} {nx : Nat → List Nat} {s ps c : Nat → Nat} {n w : Nat} (hB : zq_B st nx s ps c n n 0) (hw : w < n) {T : Nat → Prop} (hT : ∀ v, T v → c v = c w) (hTw : T w) : ∀ r, r ≤ c w → zg_gd nx s c n (c w) T (zq_up ps r w) := by
  intro r
  induction r with
  | zero => exact fun _ => (zg_gd_rec hT hw).mpr (Or.inl hTw)
  | succ r ih =>
    intro hr
    obtain ⟨u1, u2⟩ := zq_up_c hB r w hw (by omega)
    obtain ⟨v1, v2⟩ := zq_up_c hB (r + 1) w hw (by omega)
    refine (zg_gd_rec hT v1).mpr (Or.inr ⟨by omega, zq_up ps r w, u1, ?_, by omega, ih (by omega)⟩)
    have z0 : zq_up ps r w ≠ 0 := fun q => by rw [q, hB.1.2.2.1] at u2; omega
    obtain ⟨-, -, ⟨x, q3, -⟩, -, -⟩ := hB.2.2.1 _ (by omega) u1
    rw [zq_up_s]
    exact List.mem_of_getElem? q3
section HM
variable {f gr : Nat → Nat} {P b G n : Nat} {s ps c : Nat → Nat} {ns : Nat → Nat} {ss pps cs : Nat → Nat → Nat} {nxs : Nat → Nat → List Nat} {Wt : Nat → Bool} {Wg : Nat → Nat → Bool} {B : Nat → Nat} {Bst : Nat}
/-- a first best row -/
def zh_fbest (W : Nat → Bool) (κ : Nat → Nat) (n B : Nat) : Prop := B < n ∧ W B = true ∧ (∀ i, i < n → W i = true → κ B ≤ κ i) ∧ ∀ i, i < B → W i = true → κ B < κ i
/-- the sums of a row -/
theorem zh_sums (h : zh_TT f P b G gr n s c ns ss cs) {i : Nat} {r : Nat → Nat} (hi : i < n) (hr : ∀ g, g < G → r g < ns g ∧ ss g (r g) = zh_pj f P gr g (s i)) : c i = zg_sm (fun g => cs g (r g)) G ∧ zg_ls f P (s i) = zg_sm (fun g => zg_ls f P (ss g (r g))) G := by
  refine ⟨zh_c_sum h hi hr, ?_⟩
  rw [zh_ls_sum h.1 h.2.1 (h.2.2.1.2.1 i hi).1]
  exact zg_sm_cong (fun g hg => by rw [(hr g hg).2])
/-- the best of all are the best of the groups -/
theorem zh_best (h : zh_TT f P b G gr n s c ns ss cs) (h80 : ∀ t, zg_ls f P t ≤ 80)
    (hW : ∀ i, i < n → (Wt (s i) = true ↔ ∀ g, g < G → Wg g (zh_pj f P gr g (s i)) = true))
    (hB : ∀ g, g < G → B g < ns g ∧ Wg g (ss g (B g)) = true ∧ ∀ j, j < ns g → Wg g (ss g j) = true → zg_kc f P (ss g) (cs g) (B g) ≤ zg_kc f P (ss g) (cs g) j)
    (hS : ∀ i, i < n → Wt (s i) = true → zg_kc f P s c Bst ≤ zg_kc f P s c i)
    {i : Nat} {r : Nat → Nat} (hi : i < n) (hWi : Wt (s i) = true) (hκ : zg_kc f P s c i = zg_kc f P s c Bst) (hr : ∀ g, g < G → r g < ns g ∧ ss g (r g) = zh_pj f P gr g (s i)) :
    ∀ g, g < G → cs g (B g) = cs g (r g) ∧ zg_ls f P (ss g (B g)) = zg_ls f P (ss g (r g)) := by
  obtain ⟨i0, i1, i2⟩ := zh_i_ex h (r := B) (fun g hg => (hB g hg).1)
  obtain ⟨c0, l0⟩ := zh_sums h i1 (r := B) (fun g hg => ⟨(hB g hg).1, (i2 g hg).symm⟩)
  obtain ⟨c1, l1⟩ := zh_sums h hi hr
  have w0 : Wt (s i0) = true := (hW i0 i1).mpr (fun g hg => by rw [i2 g hg]; exact (hB g hg).2.1)
  have le := hS i0 i1 w0
  rw [← hκ] at le
  unfold zg_kc at le
  rw [c0, l0, c1, l1] at le
  have b0 := h80 (s i0)
  rw [l0] at b0
  refine zh_lex (fun g hg => by have := h80 (ss g (B g)); omega) (fun g hg => ?_) (fun g hg => by have := h80 (ss g (r g)); omega) (by omega) le
  have := (hB g hg).2.2 (r g) (hr g hg).1 (by rw [(hr g hg).2]; exact (hW i hi).mp hWi g hg)
  unfold zg_kc at this
  exact this
theorem zh_bestl (h : zh_TT f P b G gr n s c ns ss cs) (h80 : ∀ t, zg_ls f P t ≤ 80) (hcl : ∀ i, i < n → c i ≤ zg_ls f P (s i)) (hcg : ∀ g, g < G → ∀ j, j < ns g → cs g j ≤ zg_ls f P (ss g j))
    (hW : ∀ i, i < n → (Wt (s i) = true ↔ ∀ g, g < G → Wg g (zh_pj f P gr g (s i)) = true))
    (hB : ∀ g, g < G → B g < ns g ∧ Wg g (ss g (B g)) = true ∧ ∀ j, j < ns g → Wg g (ss g j) = true → zg_kl f P (ss g) (cs g) (B g) ≤ zg_kl f P (ss g) (cs g) j)
    (hS : ∀ i, i < n → Wt (s i) = true → zg_kl f P s c Bst ≤ zg_kl f P s c i) (hi : Bst < n) (hWi : Wt (s Bst) = true) :
    c Bst = zg_sm (fun g => cs g (B g)) G ∧ zg_ls f P (s Bst) = zg_sm (fun g => zg_ls f P (ss g (B g))) G := by
  obtain ⟨i0, i1, i2⟩ := zh_i_ex h (r := B) (fun g hg => (hB g hg).1)
  obtain ⟨r, hr⟩ := zh_pick (G := G) (fun g hg => zh_r_ex h hi hg)
  obtain ⟨c0, l0⟩ := zh_sums h i1 (r := B) (fun g hg => ⟨(hB g hg).1, (i2 g hg).symm⟩)
  obtain ⟨c1, l1⟩ := zh_sums h hi hr
  have w0 : Wt (s i0) = true := (hW i0 i1).mpr (fun g hg => by rw [i2 g hg]; exact (hB g hg).2.1)
  have le := hS i0 i1 w0
  unfold zg_kl at le
  rw [c0, l0, c1, l1] at le
  have b0 := h80 (s i0)
  have b1 := hcl i0 i1
  rw [c0] at b1
  have key := zh_lex (a := fun g => zg_ls f P (ss g (B g))) (e := fun g => cs g (B g)) (a' := fun g => zg_ls f P (ss g (r g))) (e' := fun g => cs g (r g)) (fun g hg => by have := h80 (ss g (B g)); have := hcg g hg (B g) (hB g hg).1; omega) (fun g hg => by
    have := (hB g hg).2.2 (r g) (hr g hg).1 (by rw [(hr g hg).2]; exact (hW Bst hi).mp hWi g hg)
    unfold zg_kl at this
    exact this) (fun g hg => by have := h80 (ss g (r g)); have := hcg g hg (r g) (hr g hg).1; omega) (by omega) le
  rw [c1, l1]
  exact ⟨zg_sm_cong (fun g hg => (key g hg).2.symm), zg_sm_cong (fun g hg => (key g hg).1.symm)⟩
/-- what a search of the groups is -/
def zh_SB (f : Nat → Nat) (P b G : Nat) (gr : Nat → Nat) (ns : Nat → Nat) (ss pps cs : Nat → Nat → Nat) (nxs : Nat → Nat → List Nat) : Prop :=
  ∀ g, g < G → zh_nx f P b (zh_A gr g) (nxs g) ∧ zh_ord f P b (zh_A gr g) (nxs g) ∧ zq_B (zg_st f P) (nxs g) (ss g) (pps g) (cs g) (ns g) (ns g) 0
theorem zh_TT_of (hf : ∀ p, p < P → zy_len (f p) ≤ 8) (hP : P ≤ 10) (hG : zh_G f P G gr) (ht : zg_tab f P b n s ps c) (hs : zh_SB f P b G gr ns ss pps cs nxs) : zh_TT f P b G gr n s c ns ss cs :=
  ⟨hf, hG, zh_T_of (zg_st_S hf) (zh_nx_ref hP) ht.2.1, fun g hg => zh_T_of (zg_st_S hf) (hs g hg).1 (hs g hg).2.2⟩
/-- good rows are good in each group -/
theorem zh_good (hP : P ≤ 10) (h : zh_TT f P b G gr n s c ns ss cs) (hs : zh_SB f P b G gr ns ss pps cs nxs) (h80 : ∀ t, zg_ls f P t ≤ 80)
    (hW : ∀ i, i < n → (Wt (s i) = true ↔ ∀ g, g < G → Wg g (zh_pj f P gr g (s i)) = true))
    (hB : ∀ g, g < G → B g < ns g ∧ Wg g (ss g (B g)) = true ∧ ∀ j, j < ns g → Wg g (ss g j) = true → zg_kc f P (ss g) (cs g) (B g) ≤ zg_kc f P (ss g) (cs g) j)
    (hS : ∀ i, i < n → Wt (s i) = true → zg_kc f P s c Bst ≤ zg_kc f P s c i) (hb : Bst < n) (hWb : Wt (s Bst) = true)
    {y : Nat} {r : Nat → Nat} (hy : y < n) (hr : ∀ g, g < G → r g < ns g ∧ ss g (r g) = zh_pj f P gr g (s y)) :
    zg_gd (zg_nx f P b) s c n (c Bst) (zg_tg f P s c (fun v => Wt (s v) = true) Bst) y ↔ ∀ g, g < G → zg_gd (nxs g) (ss g) (cs g) (ns g) (cs g (B g)) (zg_tg f P (ss g) (cs g) (fun v => Wg g (ss g v) = true) (B g)) (r g) := by
  obtain ⟨hf, hG, hT, hTg⟩ := id h
  have yS := (hT.2.1 y hy).1
  obtain ⟨rb, hrb⟩ := zh_pick (G := G) (fun g hg => zh_r_ex h hb hg)
  have eqb := zh_best h h80 hW hB hS hb hWb rfl hrb
  obtain ⟨cb, lb⟩ := zh_sums h hb hrb
  have cb' : c Bst = zg_sm (fun g => cs g (B g)) G := by rw [cb]; exact zg_sm_cong (fun g hg => (eqb g hg).1.symm)
  have lb' : zg_ls f P (s Bst) = zg_sm (fun g => zg_ls f P (ss g (B g))) G := by rw [lb]; exact zg_sm_cong (fun g hg => (eqb g hg).2.symm)
  have cy := zh_c_sum h hy hr
  rw [zh_gd_W (zh_nx_ref hP) hT (fun v hv => hv.2.1) hy]
  constructor
  · rintro ⟨v, v1, ⟨w1, w2, w3⟩, v3, v4⟩ g hg
    obtain ⟨rv, hrv⟩ := zh_pick (G := G) (fun g hg => zh_r_ex h v1 hg)
    have eqv := zh_best h h80 hW hB hS v1 w1 (by unfold zg_kc; rw [w2, w3]) hrv
    obtain ⟨ks, k1, k2⟩ := zh_W_pj hf hG yS v4
    have cv := zh_c_sum h v1 hrv
    have le : ∀ g, g < G → cs g (rv g) ≤ cs g (r g) + ks g := fun g hg => by
      have := k2 g hg
      rw [← (hr g hg).2, ← (hrv g hg).2] at this
      obtain ⟨j, j1, j2, j3⟩ := (hTg g hg).2.2 _ _ (zh_W_add ((hTg g hg).2.1 (r g) (hr g hg).1).2 this)
      rw [(hTg g hg).1 j (rv g) j1 (hrv g hg).1 j2] at j3
      exact j3
    have eq := zg_sm_eq (g := fun g => cs g (rv g)) (h := fun g => cs g (r g) + ks g) le (by rw [zg_sm_add, k1, ← cy, ← cv]; omega) g hg
    try dsimp only at eq
    have e1 := (eqv g hg).1
    refine (zh_gd_W (hs g hg).1 (hTg g hg) (fun v hv => hv.2.1) (hr g hg).1).mpr ⟨rv g, (hrv g hg).1, ⟨?_, e1.symm, (eqv g hg).2.symm⟩, by omega, ?_⟩
    · show Wg g (ss g (rv g)) = true; rw [(hrv g hg).2]; exact (hW v v1).mp w1 g hg
    · rw [show cs g (B g) - cs g (r g) = ks g by omega, (hr g hg).2, (hrv g hg).2]
      exact k2 g hg
  · intro hall
    obtain ⟨v, hv⟩ := zh_pick (G := G) (fun g hg => (zh_gd_W (hs g hg).1 (hTg g hg) (fun v hv => hv.2.1) (hr g hg).1).mp (hall g hg))
    obtain ⟨i, i1, i2⟩ := zh_i_ex h (r := v) (fun g hg => (hv g hg).1)
    obtain ⟨ci, li⟩ := zh_sums h i1 (r := v) (fun g hg => ⟨(hv g hg).1, (i2 g hg).symm⟩)
    have ci' : c i = c Bst := by rw [ci, cb']; exact zg_sm_cong (fun g hg => (hv g hg).2.1.2.1)
    have li' : zg_ls f P (s i) = zg_ls f P (s Bst) := by rw [li, lb']; exact zg_sm_cong (fun g hg => (hv g hg).2.1.2.2)
    have le : ∀ g, g < G → cs g (r g) ≤ cs g (B g) := fun g hg => (hv g hg).2.2.1
    have lec := zg_sm_le le
    refine ⟨i, i1, ⟨(hW i i1).mpr (fun g hg => by rw [i2 g hg]; exact (hv g hg).2.1.1), ci', li'⟩, by omega, ?_⟩
    have w := zh_W_join hf hG yS (hT.2.1 i i1).1 (b := b) (ks := fun g => cs g (B g) - cs g (r g)) (fun g hg => by
      rw [← (hr g hg).2, i2 g hg]
      exact (hv g hg).2.2.2)
    have : zg_sm (fun g => cs g (B g) - cs g (r g)) G + zg_sm (fun g => cs g (r g)) G = zg_sm (fun g => cs g (B g)) G := by
      rw [← zg_sm_add]
      exact zg_sm_cong (fun g hg => by have := le g hg; omega)
    rw [show c Bst - c y = zg_sm (fun g => cs g (B g) - cs g (r g)) G by omega]
    exact w
theorem zh_way (hP : P ≤ 10) (h : zh_TT f P b G gr n s c ns ss cs) (hBw : zq_B (zg_st f P) (zg_nx f P b) s ps c n n 0) (hs : zh_SB f P b G gr ns ss pps cs nxs) (h80 : ∀ t, zg_ls f P t ≤ 80)
    (hW : ∀ i, i < n → (Wt (s i) = true ↔ ∀ g, g < G → Wg g (zh_pj f P gr g (s i)) = true))
    (hB : ∀ g, g < G → zh_fbest (fun j => Wg g (ss g j)) (zg_kc f P (ss g) (cs g)) (ns g) (B g))
    (hS : ∀ i, i < n → Wt (s i) = true → zg_kc f P s c Bst ≤ zg_kc f P s c i) (hb : Bst < n) (hWb : Wt (s Bst) = true)
    {a w : Nat → Nat} (a0 : a 0 = 0) (hst : ∀ i, i < c Bst → zg_stp f P b s c n (zg_gd (zg_nx f P b) s c n (c Bst) (zg_tg f P s c (fun v => Wt (s v) = true) Bst)) (a i) (w i) (a (i + 1))) :
    ∀ i, i ≤ c Bst → (a i < n ∧ ∀ g, g < G → zh_tk (fun g => zh_wy f P (ss g) (pps g) (cs g) (B g)) G i g ≤ cs g (B g) ∧ zh_pj f P gr g (s (a i)) = ss g (zq_up (pps g) (cs g (B g) - zh_tk (fun g => zh_wy f P (ss g) (pps g) (cs g) (B g)) G i g) (B g))) ∧ ∀ j, j < i → w j = zh_nc (fun g => zh_wy f P (ss g) (pps g) (cs g) (B g)) G j := by
  obtain ⟨hf, hG, hT, hTg⟩ := id h
  have hB' : ∀ g, g < G → B g < ns g ∧ Wg g (ss g (B g)) = true ∧ ∀ j, j < ns g → Wg g (ss g j) = true → zg_kc f P (ss g) (cs g) (B g) ≤ zg_kc f P (ss g) (cs g) j := fun g hg => ⟨(hB g hg).1, (hB g hg).2.1, (hB g hg).2.2.1⟩
  generalize hwy : (fun g => zh_wy f P (ss g) (pps g) (cs g) (B g)) = wy
  have ewy : ∀ g j, wy g j = zh_wy f P (ss g) (pps g) (cs g) (B g) j := fun g j => by rw [← hwy]
  intro i
  induction i with
  | zero =>
    intro _
    refine ⟨⟨by rw [a0]; exact hBw.1.1, fun g hg => ⟨Nat.zero_le _, ?_⟩⟩, fun j hj => by omega⟩
    show _ = ss g (zq_up (pps g) (cs g (B g) - 0) (B g))
    rw [Nat.sub_zero, zq_up_0 (hs g hg).2.2 (hB g hg).1, (hs g hg).2.2.1.2.1, a0, hBw.1.2.1, zh_pj_st hf]
  | succ i ih =>
    intro hi
    obtain ⟨⟨ha, hx⟩, hw⟩ := ih (by omega)
    generalize hτ : zh_tk wy G i = τ at hx
    obtain ⟨p, hp, ⟨he, hy, es, hc⟩, hgd, ew, hmin⟩ := hst i (by omega)
    have xS := (hT.2.1 (a i) ha).1
    have hE := zh_e_E hp he
    have es : s (a (i + 1)) = zh_to f P (s (a i)) p := es
    have hg0 := hG.1 p hp (zh_f0 xS hp hE.2.2.1)
    have rx : ∀ g, g < G → zq_up (pps g) (cs g (B g) - τ g) (B g) < ns g ∧ cs g (zq_up (pps g) (cs g (B g) - τ g) (B g)) = τ g := fun g hg => by
      obtain ⟨u1, u2⟩ := zq_up_c (hs g hg).2.2 (cs g (B g) - τ g) (B g) (hB g hg).1 (by omega)
      have := (hx g hg).1
      exact ⟨u1, by omega⟩
    have hrx : ∀ g, g < G → zq_up (pps g) (cs g (B g) - τ g) (B g) < ns g ∧ ss g (zq_up (pps g) (cs g (B g) - τ g) (B g)) = zh_pj f P gr g (s (a i)) := fun g hg => ⟨(rx g hg).1, (hx g hg).2.symm⟩
    have cx := zh_c_sum h ha hrx
    have tgT : ∀ g, g < G → ∀ v, zg_tg f P (ss g) (cs g) (fun v => Wg g (ss g v) = true) (B g) v → cs g v = cs g (B g) := fun g _ v hv => hv.2.1
    have rxgd : ∀ g, g < G → zg_gd (nxs g) (ss g) (cs g) (ns g) (cs g (B g)) (zg_tg f P (ss g) (cs g) (fun v => Wg g (ss g v) = true) (B g)) (zq_up (pps g) (cs g (B g) - τ g) (B g)) := fun g hg =>
      zh_up_gd (hs g hg).2.2 (hB g hg).1 (tgT g hg) ⟨(hB g hg).2.1, rfl, rfl⟩ _ (by omega)
    have names : ∀ g q, g < G → q < P → gr q = g → zg_n f (ss g (zq_up (pps g) (cs g (B g) - τ g) (B g))) q = zg_n f (s (a i)) q := fun g q hg hq e => by
      rw [← (hx g hg).2]
      unfold zg_n
      rw [zh_pj_d hf hq, if_pos e]
    -- the row behind, in its group
    obtain ⟨r0, r01, r02⟩ := zh_r_ex h hy hg0
    have pE : zh_E f P b (zh_A gr (gr p)) (ss (gr p) (zq_up (pps (gr p)) (cs (gr p) (B (gr p)) - τ (gr p)) (B (gr p)))) p := by
      rw [← (hx _ hg0).2]
      exact zh_E_ag (zh_sat_A hG) xS (zh_pj_S hf xS) (zh_pj_ag hf) (zh_A_iff.mpr rfl) rfl hE
    have st0 : ss (gr p) r0 = zh_to f P (ss (gr p) (zq_up (pps (gr p)) (cs (gr p) (B (gr p)) - τ (gr p)) (B (gr p)))) p := by
      rw [r02, es, zh_pj_to hf hG xS hp rfl hE.2.2.1, (hx _ hg0).2]
    have hry : ∀ g, g < G → (if g = gr p then r0 else zq_up (pps g) (cs g (B g) - τ g) (B g)) < ns g ∧ ss g (if g = gr p then r0 else zq_up (pps g) (cs g (B g) - τ g) (B g)) = zh_pj f P gr g (s (a (i + 1))) := fun g hg => by
      by_cases e : g = gr p
      · rw [if_pos e, e]; exact ⟨r01, r02⟩
      · rw [if_neg e, es, zh_pj_off hf hG xS hp (fun z => e z.symm) hE.2.2.1]
        exact hrx g hg
    have cy := zh_c_sum h hy (r := fun g => if g = gr p then r0 else zq_up (pps g) (cs g (B g) - τ g) (B g)) hry
    have c0le : cs (gr p) r0 ≤ τ (gr p) + 1 := by
      obtain ⟨j, j1, j2, j3⟩ := (hTg _ hg0).2.2 _ _ (zh_W_add ((hTg _ hg0).2.1 _ (rx _ hg0).1).2 (zh_W_one pE))
      rw [(hTg _ hg0).1 j r0 j1 r01 (by rw [j2, st0]), (rx _ hg0).2] at j3
      exact j3
    have c0 : cs (gr p) r0 = τ (gr p) + 1 := by
      have := zg_sm_eq (g := fun g => cs g (if g = gr p then r0 else zq_up (pps g) (cs g (B g) - τ g) (B g))) (h := fun g => if g = gr p then cs g (zq_up (pps g) (cs g (B g) - τ g) (B g)) + 1 else cs g (zq_up (pps g) (cs g (B g) - τ g) (B g))) (n := G) (fun g hg => by
        try dsimp only
        by_cases e : g = gr p
        · rw [if_pos e, if_pos e, (rx g hg).2, e]; exact c0le
        · rw [if_neg e, if_neg e]; exact Nat.le_refl _) (by rw [zg_sm_up (g := fun g => cs g (zq_up (pps g) (cs g (B g) - τ g) (B g))) hg0, ← cx, ← cy, hc]; exact Nat.le_refl _) (gr p) hg0
      try dsimp only at this
      rw [if_pos rfl, if_pos rfl, (rx _ hg0).2] at this
      exact this
    have gd0 := (zh_good hP h hs h80 hW hB' hS hb hWb hy hry).mp hgd (gr p) hg0
    rw [if_pos rfl] at gd0
    obtain ⟨v, vn, vT, vle, -⟩ := (zh_gd_W (hs _ hg0).1 (hTg _ hg0) (fun v hv => hv.2.1) r01).mp gd0
    have hlt0 : τ (gr p) < cs (gr p) (B (gr p)) := by omega
    -- the way's call is no more than this one
    have le1 : wy (gr p) (τ (gr p)) ≤ w i := by
      obtain ⟨v, hD, hv⟩ := gd0
      rw [c0, ← Nat.sub_sub] at hD
      rw [ewy, ew, ← names _ p hg0 hp rfl]
      exact zh_wy_least (hs _ hg0).1 (hs _ hg0).2.1 (hs _ hg0).2.2 (hTg _ hg0) (hB _ hg0).1 hlt0 (W := zg_tg f P (ss (gr p)) (cs (gr p)) (fun v => Wg (gr p) (ss (gr p) v) = true) (B (gr p))) (fun v hv hT' => by
        have := (hB _ hg0).2.2.2 v hv hT'.1
        unfold zg_kc at this
        rw [hT'.2.1, hT'.2.2] at this
        omega) pE r01 st0 c0 hD hv
    -- it is no more than any way's call
    have le2 : ∀ g, g < G → τ g < cs g (B g) → ∃ q, q < P ∧ gr q = g ∧ 0 < zg_d (s (a i)) q ∧ wy g (τ g) = zg_n f (s (a i)) q ∧ w i ≤ wy g (τ g) ∧ ss g (zq_up (pps g) (cs g (B g) - (τ g + 1)) (B g)) = zh_to f P (ss g (zq_up (pps g) (cs g (B g) - τ g) (B g))) q := fun g hg hlt => by
      obtain ⟨q, q1, q2, q3⟩ := zh_wy_at (hs g hg).1 (hs g hg).2.2 (hTg g hg) (hB g hg).1 hlt
      rw [← ewy] at q3
      have eg := zh_A_iff.mp q1.2.1
      have hq := q1.1
      rw [names g q hg hq eg] at q3
      have qE : zh_E f P b (fun _ => true) (s (a i)) q := by
        have q1' := q1
        rw [← (hx g hg).2] at q1'
        exact zh_E_ag' (zh_sat_A hG) (zh_pj_S hf xS) xS (fun z hz hA => (zh_pj_ag hf z hz hA).symm) rfl q1'
      refine ⟨q, hq, eg, qE.2.2.1, q3, ?_, by rw [← Nat.sub_sub]; exact q2⟩
      obtain ⟨q', q'1, q'2, q'3, q'4⟩ := zh_low hP xS qE
      obtain ⟨y, y1, y2, y3⟩ := hT.2.2 _ _ (zh_W_add (hT.2.1 (a i) ha).2 (zh_W_one qE))
      obtain ⟨u1, u2⟩ := zq_up_c (hs g hg).2.2 (cs g (B g) - τ g - 1) (B g) (hB g hg).1 (by omega)
      have hry' : ∀ g', g' < G → (if g' = g then zq_up (pps g') (cs g' (B g') - τ g' - 1) (B g') else zq_up (pps g') (cs g' (B g') - τ g') (B g')) < ns g' ∧ ss g' (if g' = g then zq_up (pps g') (cs g' (B g') - τ g' - 1) (B g') else zq_up (pps g') (cs g' (B g') - τ g') (B g')) = zh_pj f P gr g' (s y) := fun g' hg' => by
        by_cases e : g' = g
        · rw [if_pos e, e]
          refine ⟨u1, ?_⟩
          rw [q2, y2, zh_pj_to hf hG xS hq eg qE.2.2.1, (hx g hg).2]
        · rw [if_neg e, y2, zh_pj_off hf hG xS hq (fun z => e (z.symm.trans eg)) qE.2.2.1]
          exact hrx g' hg'
      have cy' := zh_c_sum h y1 hry'
      have cy2 : c y = c (a i) + 1 := by
        rw [cy', cx, ← zg_sm_up hg]
        refine zg_sm_cong (fun g' hg' => ?_)
        try dsimp only
        by_cases e : g' = g
        · rw [if_pos e, if_pos e, (rx g' hg').2, e]; omega
        · rw [if_neg e, if_neg e]
      have gdy := (zh_good hP h hs h80 hW hB' hS hb hWb y1 hry').mpr (fun g' hg' => by
        by_cases e : g' = g
        · rw [if_pos e, e]
          exact zh_up_gd (hs g hg).2.2 (hB g hg).1 (tgT g hg) ⟨(hB g hg).2.1, rfl, rfl⟩ _ (by omega)
        · rw [if_neg e]; exact rxgd g' hg')
      rw [q3, ← q'3]
      exact hmin q' y q'1 ⟨q'2, y1, by rw [y2]; exact q'4.symm, cy2⟩ gdy
    obtain ⟨q0, q01, q02, q03, q04, q05, q06⟩ := le2 _ hg0 hlt0
    have ewi : w i = wy (gr p) (τ (gr p)) := by omega
    have nz : ∀ g, g < G → τ g < cs g (B g) → wy g (τ g) ≠ 0 := fun g hg hlt => by
      obtain ⟨q, z1, z2, z3, z4, -⟩ := le2 g hg hlt
      rw [z4]
      intro e
      have := zg_n_len (xS.2 q z1)
      rw [e, zy_len_0] at this
      omega
    have ok := zg_fb_ok (W := fun g => decide (wy g (τ g) ≠ 0)) (κ := fun g => wy g (τ g)) G
    have efb : zg_fb (fun g => decide (wy g (τ g) ≠ 0)) (fun g => wy g (τ g)) G = some (gr p) := by
      cases e : zg_fb (fun g => decide (wy g (τ g) ≠ 0)) (fun g => wy g (τ g)) G with
      | none =>
        rw [e] at ok
        have := ok (gr p) hg0
        exact absurd (nz _ hg0 hlt0) (of_decide_eq_false this)
      | some g1 =>
        rw [e] at ok
        obtain ⟨o1, o2, o3, -⟩ := ok
        have o3 := o3 (gr p) hg0 (decide_eq_true (nz _ hg0 hlt0))
        have lt1 : τ g1 < cs g1 (B g1) := by
          by_cases z : τ g1 < cs g1 (B g1)
          · exact z
          · have o2 := of_decide_eq_true o2
            rw [ewy] at o2
            unfold zh_wy at o2
            rw [if_neg z] at o2
            exact absurd rfl o2
        obtain ⟨q1, z1, z2, z3, z4, z5, -⟩ := le2 g1 o1 lt1
        have e1 : zg_n f (s (a i)) q1 = zg_n f (s (a i)) p := by rw [← z4, ← ew]; omega
        have := zh_mA (zh_sat_A (g := gr p) hG) xS hp hE.2.2.1 (zg_m_iff.mpr ⟨z1, e1⟩)
        rw [zh_A_iff.mpr rfl] at this
        have := zh_A_iff.mp this
        rw [← z2, this]
    have etk : zh_tk wy G (i + 1) = fun h => if h = gr p then τ h + 1 else τ h := by
      rw [zh_tk, hτ, efb]
    have enc : zh_nc wy G i = wy (gr p) (τ (gr p)) := by
      unfold zh_nc
      rw [hτ, efb]
    refine ⟨⟨hy, fun g hg => ?_⟩, fun j hj => ?_⟩
    · rw [etk]
      try dsimp only
      by_cases e : g = gr p
      · rw [if_pos e, e]
        refine ⟨hlt0, ?_⟩
        rw [q06, ← r02, st0]
        refine zh_to_eq ?_
        rw [names _ p hg0 hp rfl, names _ q0 hg0 q01 q02, ← q04, ← ew, ewi]
      · rw [if_neg e, es, zh_pj_off hf hG xS hp (fun z => e z.symm) hE.2.2.1]
        exact hx g hg
    · by_cases e : j = i
      · rw [e, enc, ewi]
      · exact hw j (by omega)
end HM
