/-! ===== search: the reference walks ===== -/
section YRg
variable {l : Launch} {E : zx_E} {d : Nat} {I : Nat → Nat → Int32} {L : Nat → Nat → Int64} {Y : zx_Y} {Qo : Option Value → zx_M → Prop} {Q : Int32 → zx_M → Prop} {Qv : zx_M → Prop} {P b n : Nat} {f s ps c : Nat → Nat}
/-- a step of the walk: from row x by the call w to row y, the least call that leads to a good row -/
def zg_stp (f : Nat → Nat) (P b : Nat) (s c : Nat → Nat) (n : Nat) (G : Nat → Prop) (x w y : Nat) : Prop :=
  ∃ p, p < P ∧ zg_ed f P b s c n x p y ∧ G y ∧ w = zg_n f (s x) p ∧ ∀ q j, q < P → zg_ed f P b s c n x q j → G j → w ≤ zg_n f (s x) q
def zg_rw (w : Nat → Nat) (k : Nat) : List Int32 := (List.range (min k 12)).map (fun i => nI (w i))
theorem zg_rw_len {w : Nat → Nat} {k : Nat} : (zg_rw w k).length = min k 12 := by unfold zg_rw; rw [List.length_map, List.length_range]
theorem zg_rw_cong {w w' : Nat → Nat} {k : Nat} (h : ∀ i, i < k → w' i = w i) : zg_rw w' k = zg_rw w k := by
  unfold zg_rw
  refine List.map_congr_left (fun i hi => ?_)
  have := List.mem_range.mp hi
  rw [h i (by omega)]
theorem zg_rw_s {w : Nat → Nat} {k : Nat} (h : k < 12) : zg_rw w (k + 1) = zg_rw w k ++ [nI (w k)] := by
  unfold zg_rw
  rw [show min (k + 1) 12 = k + 1 by omega, show min k 12 = k by omega, List.range_succ, List.map_append]; rfl
theorem zg_rw_12 {w : Nat → Nat} {k : Nat} (h : 12 ≤ k) : zg_rw w (k + 1) = zg_rw w k := by
  unfold zg_rw
  rw [show min (k + 1) 12 = 12 by omega, show min k 12 = 12 by omega]
/-- the row of a state -/
def zg_ix (s : Nat → Nat) (n t : Nat) : Nat := ((List.range n).find? (fun j => decide (s j = t))).getD 0
theorem zg_ix_ok {n t j : Nat} (hu : ∀ i k, i < n → k < n → s i = s k → i = k) (hj : j < n) (e : s j = t) : zg_ix s n t = j := by
  unfold zg_ix
  cases h : (List.range n).find? (fun j => decide (s j = t)) with
  | none =>
    have := List.find?_eq_none.mp h j (List.mem_range.mpr hj)
    exact absurd (decide_eq_true e) this
  | some i =>
    have h1 := List.find?_some h
    have h2 := List.mem_range.mp (List.mem_of_find?_eq_some h)
    rw [decide_eq_true_eq] at h1
    exact hu i j h2 hj (h1.trans e.symm)
/-- p's call leads to a good row -/
def zg_cd (J : Nat → Nat → Int32) (f : Nat → Nat) (P b : Nat) (s c : Nat → Nat) (n a p : Nat) : Bool :=
  zg_e f P b (s a) p && (!decide (J 149 (zg_ix s n (zg_mv P (s a) (zg_m f P (s a) p))) = 0) && decide (c (zg_ix s n (zg_mv P (s a) (zg_m f P (s a) p))) = c a + 1))
def zg_o4 (f : Nat → Nat) (t : Nat) : Option Nat → Int32
  | none => -1
  | some q => nI (zg_n f t q)
def zg_o5 (f : Nat → Nat) (P t : Nat) : Option Nat → Int32
  | none => 0
  | some q => nI (zy_orN (zg_m f P t q) P)
theorem zy_228_185 (hY : zx_lay Y) (hF : zg_F I L f P b n s ps c) {B a k : Nat} (ha : a < n)
    (hq : zx_To l E (d + 4) 228 185 [some (.ref 132), some (.int (nI B)), some (.int (nI a)), some (.int (nI k)), some (.int (zg_o4 f (s a) (zg_fb (zg_cd I f P b s c n a) (zg_n f (s a)) P))), some (.int (zg_o5 f P (s a) (zg_fb (zg_cd I f P b s c n a) (zg_n f (s a)) P))), some (.int (nI P)), none, none] [] (I, L, Y) Qo) :
    zx_To l E (d + 4) 228 185 [some (.ref 132), some (.int (nI B)), some (.int (nI a)), some (.int (nI k)), some (.int (-1)), some (.int 0), some (.int 0), none, none] [] (I, L, Y) Qo := by
  obtain ⟨⟨hI, hR⟩, ⟨hb, h34⟩, hBt, hH⟩ := id hF
  obtain ⟨hn, -, hr⟩ := id hR
  have hu := hBt.2.1
  have hP := hI.1
  have hin : vp_in (nI a) 20000 := vp_in_nI (by omega) (by omega)
  obtain ⟨a1, a2, a3, a4, a5⟩ := hr a ha
  have s40 := zg_40 hP a4.1
  have nlt : ∀ q, q < P → zg_n f (s a) q < 2 ^ 31 := fun q hq => Nat.lt_of_le_of_lt (zy_pf_le _ _) (Nat.lt_of_lt_of_le (hI.2.2 q hq).2 (by decide))
  refine zy_down (n := P) (P := fun p => zx_To l E (d + 4) 228 185 [some (.ref 132), some (.int (nI B)), some (.int (nI a)), some (.int (nI k)), some (.int (zg_o4 f (s a) (zg_fb (zg_cd I f P b s c n a) (zg_n f (s a)) p))), some (.int (zg_o5 f P (s a) (zg_fb (zg_cd I f P b s c n a) (zg_n f (s a)) p))), some (.int (nI p)), none, none] [] (I, L, Y) Qo) hq (fun p hp ih => ?_)
  rw [zg_fb] at ih
  refine sg_228_185 hY _ _ _ _ _ _ ⟨fun h => ?_, fun _ => ⟨hin, ?_⟩⟩
  · rw [hI.2.1, nI_leI (by omega) (by omega)] at h; omega
  rw [nI_clamp (by omega), a3]
  refine zy_222 hY hI (by omega) hp ⟨hY, hin, ?_⟩
  dsimp only
  rw [a3]
  refine zy_220 hY hI (by omega) hp ⟨hY, hin, ?_⟩
  dsimp only
  rw [a3]
  refine zy_224 hY hP hb h34 (by omega) hp ⟨hY, fun h2 => ?_, fun h2 => ?_⟩
  · rw [zy_b0] at h2
    rw [show zg_cd I f P b s c n a p = false by unfold zg_cd; rw [h2]; rfl, if_neg (by decide)] at ih
    rw [nI_1]; exact ih
  · rw [zy_b1] at h2
    refine zy_229 hY hF ha hp h2 (fun j hj es => ⟨hY, ?_⟩)
    have ej := zg_ix_ok hu hj es
    have ew : zg_cd I f P b s c n a p = (!decide (I 149 j = 0) && decide (c j = c a + 1)) := by unfold zg_cd; rw [h2, ej, Bool.true_and]
    rw [← ew, nI_1]
    refine ⟨fun h3 => ?_, fun h3 => ?_⟩
    · rw [zy_b0] at h3
      rw [h3, if_neg (by decide)] at ih
      exact ih
    · rw [zy_b1] at h3
      rw [h3, if_pos rfl] at ih
      have ok := zg_fb_ok (W := zg_cd I f P b s c n a) (κ := zg_n f (s a)) p
      cases e : zg_fb (zg_cd I f P b s c n a) (zg_n f (s a)) p with
      | none =>
        rw [e] at ih
        exact ⟨fun _ => ih, fun q => absurd (by decide : (-1 : Int32) < 0) q⟩
      | some q =>
        rw [e] at ih ok
        dsimp only at ih
        have hq1 := nlt q (by omega)
        have hq2 := nlt p hp
        have nb : ¬ nI (zg_n f (s a) q) < 0 := by rw [← nI_0, nI_ltI hq1 (by omega)]; omega
        rw [show zg_o4 f (s a) (some q) = nI (zg_n f (s a) q) from rfl, nI_leI hq1 hq2]
        refine ⟨fun z => absurd z nb, fun _ => ⟨fun h4 => ?_, fun h4 => ?_⟩⟩
        · rw [if_neg (by omega)] at ih; exact ih
        · rw [if_pos (by omega)] at ih; exact ih
theorem zy_228_166 (hY : zx_lay Y) (hF : zg_F I L f P b n s ps c) {T : Nat → Prop} {B : Nat} (hB : B < n) (hT : ∀ v, T v → c v = c B) (hG : ∀ k, k < n → zg_mb (I 149 k) (zg_gd (zg_nx f P b) s c n (c B) T k))
    (h0 : zg_gd (zg_nx f P b) s c n (c B) T 0)
    (hq : ∀ (a w : Nat → Nat), a 0 = 0 → (∀ i, i < c B → zg_stp f P b s c n (zg_gd (zg_nx f P b) s c n (c B) T) (a i) (w i) (a (i + 1))) → Qo (some (.int (nI (c B)))) (zy_ent I (zg_rw w (c B)), L, Y)) :
    zx_To l E (d + 4) 228 166 [some (.ref 132), some (.int (nI B)), some (.int 0), some (.int 0), none, none, none, none, none] [] (zy_ent I [], L, Y) Qo := by
  obtain ⟨⟨hI, hR⟩, ⟨hb, h34⟩, hBt, hH⟩ := id hF
  obtain ⟨hn, -, hr⟩ := id hR
  have hu := hBt.2.1
  have hP := hI.1
  have l80 : ∀ i, zg_ls f P (s i) ≤ 80 := fun i => zg_ls_80 hI.1 (fun p hp => (hI.2.2 p hp).2)
  have hinB : vp_in (nI B) 20000 := vp_in_nI (by omega) (by omega)
  obtain ⟨B1, -, -, -, B5⟩ := hr B hB
  have lB := l80 B
  have i12 : (12 : Int32) = nI 12 := rfl
  have key : ∀ r k (a w : Nat → Nat), k + r = c B → a 0 = 0 → (∀ i, i < k → zg_stp f P b s c n (zg_gd (zg_nx f P b) s c n (c B) T) (a i) (w i) (a (i + 1))) → a k < n → c (a k) = k → zg_gd (zg_nx f P b) s c n (c B) T (a k) →
      zx_To l E (d + 4) 228 166 [some (.ref 132), some (.int (nI B)), some (.int (nI (a k))), some (.int (nI k)), none, none, none, none, none] [] (zy_ent I (zg_rw w k), L, Y) Qo := by
    intro r
    induction r with
    | zero =>
      intro k a w hk w0 w1 w2 w3 w4
      have ek : k = c B := by omega
      subst ek
      refine sg_228_166 hY _ _ _ ⟨hinB, ?_⟩
      rw [nI_clamp (by omega), zy_ent_el (by omega), B1, nI_leI (by omega) (by omega)]
      exact ⟨fun _ => ⟨hinB, hq a w w0 w1⟩, fun h => absurd (Nat.le_refl _) h⟩
    | succ r ih =>
      intro k a w hk w0 w1 w2 w3 w4
      have eF : zg_F (zy_ent I (zg_rw w k)) L f P b n s ps c := zg_F_cong hF (fun x y _ x2 x3 => zy_ent_el ⟨x2, x3⟩)
      refine sg_228_166 hY _ _ _ ⟨hinB, ?_⟩
      rw [nI_clamp (by omega), zy_ent_el (by omega), B1, nI_leI (by omega) (by omega)]
      refine ⟨fun h => absurd h (by omega), fun _ => zy_228_185 hY eF w2 ?_⟩
      have hin : vp_in (nI (a k)) 20000 := vp_in_nI (by omega) (by omega)
      obtain ⟨a1, -, a3, a4, a5⟩ := hr (a k) w2
      -- good rows behind
      have cand : ∀ q, q < P → (zg_cd (zy_ent I (zg_rw w k)) f P b s c n (a k) q = true ↔ ∃ j, zg_ed f P b s c n (a k) q j ∧ zg_gd (zg_nx f P b) s c n (c B) T j) := fun q hq => by
        unfold zg_cd
        constructor
        · intro h
          rw [Bool.and_eq_true, Bool.and_eq_true, decide_eq_true_eq, Bool.not_eq_true', decide_eq_false_iff_not, zy_ent_el (by omega)] at h
          obtain ⟨h1, h2, h3⟩ := h
          obtain ⟨-, -, -, ⟨g3, -⟩, -⟩ := hBt
          have at_ := zg_nx_at (f := f) (b := b) (s := s (a k)) hq
          rw [h1, if_pos rfl] at at_
          obtain ⟨j, j1, j2⟩ := g3 (a k) w2 _ (List.mem_of_getElem? at_)
          rw [zg_ix_ok hu j1 j2] at h2 h3
          refine ⟨j, ⟨h1, j1, j2, h3⟩, ?_⟩
          rcases hG j j1 with ⟨-, z⟩ | ⟨z, -⟩
          · exact z
          · exact absurd z h2
        · rintro ⟨j, ⟨h1, j1, j2, h3⟩, z⟩
          rw [h1, zg_ix_ok hu j1 j2, h3, zy_ent_el (by omega)]
          rcases hG j j1 with ⟨e, -⟩ | ⟨-, e⟩
          · rw [e, decide_eq_true rfl]; decide
          · exact absurd z e
      have ok := zg_fb_ok (W := zg_cd (zy_ent I (zg_rw w k)) f P b s c n (a k)) (κ := zg_n f (s (a k))) P
      cases e : zg_fb (zg_cd (zy_ent I (zg_rw w k)) f P b s c n (a k)) (zg_n f (s (a k))) P with
      | none =>
        rw [e] at ok
        rcases (zg_gd_rec hT w2).mp w4 with q | ⟨q1, j, q2, q3, q4, q5⟩
        · have := hT _ q; omega
        · obtain ⟨p, z1, z2⟩ := (zg_ed_nx hu w2 q2 q4).mp q3
          have := (cand p z1).mpr ⟨j, z2, q5⟩
          rw [ok p z1] at this; cases this
      | some q =>
        rw [e] at ok
        obtain ⟨o1, o2, o3, -⟩ := ok
        obtain ⟨j0, jE, jG⟩ := (cand q o1).mp o2
        have he := jE.1
        have nx : ∀ j, j < n → s j = zg_mv P (s (a k)) (zg_m f P (s (a k)) q) → zx_To l E (d + 4) 228 166 [some (.ref 132), some (.int (nI B)), some (.int (nI j)), some (.int (nI (k + 1))), none, none, none, none, none] [] (zy_ent I (zg_rw (fun i => if i = k then zg_n f (s (a k)) q else w i) (k + 1)), L, Y) Qo := fun j hj es => by
          have ej : j0 = j := hu j0 j jE.2.1 hj (jE.2.2.1.trans es.symm)
          subst ej
          have := ih (k + 1) (fun i => if i = k + 1 then j0 else a i) (fun i => if i = k then zg_n f (s (a k)) q else w i) (by omega) (by rw [if_neg (by omega)]; exact w0) (fun i hi => ?_) (by rw [if_pos rfl]; exact hj) (by rw [if_pos rfl]; have := jE.2.2.2; omega) (by rw [if_pos rfl]; exact jG)
          · rw [if_pos rfl] at this; exact this
          · by_cases z : i = k
            · rw [z, if_neg (by omega), if_pos rfl, if_pos rfl]
              exact ⟨q, o1, jE, jG, rfl, fun q' j' hq' hE hg => o3 q' hq' ((cand q' hq').mpr ⟨j', hE, hg⟩)⟩
            · rw [if_neg (by omega), if_neg z, if_neg (by omega)]
              exact w1 i (by omega)
        have wc : zg_rw (fun i => if i = k then zg_n f (s (a k)) q else w i) k = zg_rw w k := zg_rw_cong (fun i hi => if_neg (by omega))
        have mpos : ∀ q', q' < P → zg_m f P (s (a k)) q q' = true → 1 ≤ zg_d (s (a k)) q' := fun q' _ hm => zg_m_pos a4 o1 (zg_e_pos he) hm
        refine sg_228_185 hY _ _ _ _ _ _ ⟨fun _ => ?_, fun h => absurd (by rw [eF.1.1.2.1]; exact (nI_leI (by omega) (by omega)).mpr (Nat.le_refl _)) h⟩
        rw [i12, nI_leI (by omega) (by omega), nI_clamp (by omega), a3, nI_1]
        refine ⟨fun h => ⟨hin, ?_⟩, fun h => ?_⟩
        · refine zy_223 (I := zy_ent I (zg_rw w k)) hY hP eF.1.1.2.1 a4.1 mpos ⟨hY, zy_221c hY eF w2 o1 he (fun x j hx hj es ea => ⟨hY, vp_in_nI hx (by omega), ?_⟩)⟩
          rw [nI_clamp (by omega)]
          dsimp only
          rw [ea]
          have := nx j hj es
          rw [zg_rw_12 (by omega), wc] at this
          exact this
        · refine zy_170 hY (by rw [zg_rw_len]; omega) ⟨hY, hin, ?_⟩
          have := zg_rw_s (w := fun i => if i = k then zg_n f (s (a k)) q else w i) (k := k) (by omega)
          rw [wc, if_pos rfl] at this
          rw [show zg_o4 f (s (a k)) (some q) = nI (zg_n f (s (a k)) q) from rfl, ← this]
          dsimp only
          rw [a3]
          generalize hw' : (fun i => if i = k then zg_n f (s (a k)) q else w i) = w' at *
          have eF' : zg_F (zy_ent I (zg_rw w' (k + 1))) L f P b n s ps c := zg_F_cong hF (fun x y _ x2 x3 => zy_ent_el ⟨x2, x3⟩)
          refine zy_223 (I := zy_ent I (zg_rw w' (k + 1))) hY hP eF'.1.1.2.1 a4.1 mpos ⟨hY, zy_221c hY eF' w2 o1 he (fun x j hx hj es ea => ⟨hY, vp_in_nI hx (by omega), ?_⟩)⟩
          rw [nI_clamp (by omega)]
          dsimp only
          rw [ea]
          exact nx j hj es
  have n0 : 0 < n := hBt.1.1
  have c0 : c 0 = 0 := hBt.1.2.2.1
  exact key (c B) 0 (fun _ => 0) (fun _ => 0) (by omega) rfl (fun i hi => by omega) n0 c0 h0
theorem zy_228 (hY : zx_lay Y) (hF : zg_F I L f P b n s ps c) {W : Nat → Prop} {B : Nat} (hB : B < n) (hW : ∀ k, k < n → zg_mb (I 149 k) (W k)) (hWB : W B)
    (hq : ∀ (J : Nat → Nat → Int32) (a w : Nat → Nat), (∀ x k, x ≠ 149 → J x k = I x k) → a 0 = 0 → (∀ i, i < c B → zg_stp f P b s c n (zg_gd (zg_nx f P b) s c n (c B) (zg_tg f P s c W B)) (a i) (w i) (a (i + 1))) → Q (nI (c B)) (zy_ent J (zg_rw w (c B)), L, Y)) :
    zx_Ci l E (d + 4) 228 [.ref 132, .int (nI B)] (I, L, Y) Q := by
  have hBt := hF.2.2.1
  refine sg_228_0 hY _ ?_
  rw [hF.1.2.2.1, zg_pd_sub]
  refine zy_228_7 hY hF hB hW (fun J j1 j2 => ?_)
  rw [zy_ent_nil]
  have jF : zg_F J L f P b n s ps c := zg_F_cong hF (fun x y x1 _ _ => j1 x y x1)
  have hT : ∀ v, zg_tg f P s c W B v → c v = c B := fun v h => h.2.1
  -- the first row is good: the way by parents
  have up : ∀ r, r ≤ c B → zg_gd (zg_nx f P b) s c n (c B) (zg_tg f P s c W B) (zq_up ps r B) := by
    intro r
    induction r with
    | zero => exact fun _ => (zg_gd_rec hT hB).mpr (Or.inl ⟨hWB, rfl, rfl⟩)
    | succ r ih =>
      intro hr
      obtain ⟨u1, u2⟩ := zq_up_c hBt r B hB (by omega)
      obtain ⟨v1, v2⟩ := zq_up_c hBt (r + 1) B hB (by omega)
      refine (zg_gd_rec hT v1).mpr (Or.inr ⟨by omega, zq_up ps r B, u1, ?_, by omega, ih (by omega)⟩)
      have z0 : zq_up ps r B ≠ 0 := fun q => by rw [q, hBt.1.2.2.1] at u2; omega
      obtain ⟨-, -, ⟨x, q3, -⟩, -, -⟩ := hBt.2.2.1 _ (by omega) u1
      rw [zq_up_s]
      exact List.mem_of_getElem? q3
  have h0 : zg_gd (zg_nx f P b) s c n (c B) (zg_tg f P s c W B) 0 := by
    have := up (c B) (Nat.le_refl _)
    obtain ⟨v1, v2⟩ := zq_up_c hBt (c B) B hB (Nat.le_refl _)
    have e0 : zq_up ps (c B) B = 0 := by
      by_cases z : zq_up ps (c B) B = 0
      · exact z
      · obtain ⟨-, -, -, q5, -⟩ := hBt.2.2.1 _ (by omega) v1
        omega
    rw [e0] at this; exact this
  exact zy_228_166 hY jF hB hT j2 h0 (fun a w w0 w1 => ⟨_, rfl, hq J a w j1 w0 w1⟩)
end YRg
