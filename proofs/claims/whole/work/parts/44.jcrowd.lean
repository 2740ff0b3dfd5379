/-! ===== crowd: class = reference ===== -/
def zw_cr : List (Nat × Nat × Nat) := [(4, 1, 6), (8, 5, 6), (8, 7, 8), (9, 0, 10), (11, 0, 6), (14, 3, 5), (15, 0, 76), (16, 0, 76), (132, 0, 1), (132, 3, 4), (132, 10, 11), (132, 14, 18), (132, 20, 21), (134, 0, 10), (135, 0, 10), (136, 0, 10), (137, 0, 6), (141, 0, 10), (142, 0, 6)]
theorem zt_ap_fr {J : Nat → Nat → Int32} {P k : Nat} {ns : List Nat} {g : Nat → Int32} {x : Int32} (h : P + k ≤ 10) : zy_fr zw_cr J (zx_u2 (zy_ro (zt_ap J P ns k) 137 g 6) 132 10 x) := by
  intro a y hk
  have gg : ∀ j a' lo hi, zw_cr[j]? = some (a', lo, hi) → ¬ (a = a' ∧ lo ≤ y ∧ y < hi) := fun j a' lo hi h q => hk (by rw [q.1]; exact zy_in_at j a' lo hi y h q.2.1 q.2.2)
  have g1 := gg 9 132 3 4 rfl
  have g2 := gg 10 132 10 11 rfl
  have g3 := gg 13 134 0 10 rfl
  have g4 := gg 14 135 0 10 rfl
  have g5 := gg 15 136 0 10 rfl
  have g6 := gg 16 137 0 6 rfl
  rw [zy_u2_ne (by omega)]
  unfold zy_ro
  rw [if_neg (by omega)]
  unfold zt_ap
  rw [if_neg (by omega), if_neg (by omega), if_neg (by omega)]
theorem zt_nms_fine {acc : List (Nat × Nat)} (h : ∀ q ∈ acc, zt_fine q) : ∀ x ∈ zt_nms acc, zy_is (nI x) = true := by
  intro x hx
  unfold zt_nms at hx
  obtain ⟨q, hq, rfl⟩ := List.mem_map.mp hx
  have := h q (List.mem_filter.mp hq).1
  exact zy_is_mk this.2.1 this.2.2.1
section YJc
variable {l : Launch} {E : zx_E} {d : Nat} {I : Nat → Nat → Int32} {L : Nat → Nat → Int64} {Y : zx_Y} {Qo : Option Value → zx_M → Prop} {Q : Int32 → zx_M → Prop} {Qv : zx_M → Prop} {n i to : Nat}
theorem zj_crowd (hY : zx_lay Y) {P S b r : Nat} {H : List (Nat × Nat)} (hC : zc_C I P S b r H) (hT : zc_T I n) (hPr : zc_P I)
    (hq : ∀ v I' P' H', P ≤ P' → zc_C I' P' S b r H' → zc_T I' 0 → zc_P I' → zy_fr zw_cr I I' → Q v (I', L, Y)) :
    zx_Ci l E (d + 4) 120 [.ref 3] (I, L, Y) (fun v M1 => zx_lay M1.2.2 ∧ zx_Ci l E (d + 4) 185 [.ref 132] M1 (fun w M2 => w = v ∧ Q v M2)) := by
  have hC0 := hC
  obtain ⟨⟨hP, h7, h3⟩, his, hn, hz, ⟨hS, h8⟩, ⟨hb1, hb2, hb3, hb4⟩, ⟨hr, h6, hl, h5, h10⟩, hlog, hch⟩ := hC
  obtain ⟨t1, t2, t3, t4⟩ := hT
  generalize hTT : (fun j => zy_n (I 5 j)) = T
  have eT : ∀ j, j < n → I 5 j = nI (T j) ∧ T j < 256 := fun j hj => by
    obtain ⟨v, hv, e⟩ := (t4 j hj).2
    rw [← hTT]
    show I 5 j = nI (zy_n (I 5 j)) ∧ zy_n (I 5 j) < 256
    rw [e, zy_n_nI (by omega)]; exact ⟨rfl, hv⟩
  have hk : zt_ok T n 76 := ⟨t1, by omega, fun j hj => (eT j hj).2⟩
  have e10 : (10 : Int32) - I 8 7 = nI (10 - P) := by rw [h7]; exact pk_sub (a := 10) (b := P) hP
  have negs : ∀ k : Nat, k < 81 → (-1 : Int32) - nI k ≤ 0 := by decide
  -- cut(0)
  have cut : ∀ (J : Nat → Nat → Int32) (K : Int32 → zx_M → Prop), zy_fr zw_ct I J → K 1 (zx_u2 J 4 1 0, L, Y) → zx_Ci l E (d + 3) 110 [.ref 4, .int 0] (J, L, Y) K := fun J K hJ hK => by
    refine zy_110 hY t1 (by rw [zy_fr_at hJ 4 1 (by decide)]; exact t2) ?_
    have : zy_one (n + 1) 0 = true := by unfold zy_one; rw [zy_i0]; exact decide_eq_true (by omega)
    rw [this]; exact hK
  -- the reference, from a memory after the class
  have model : ∀ (J : Nat → Nat → Int32) (K : Int32 → zx_M → Prop), (∀ a k, 132 ≤ a → J a k = I a k) →
      (n ≠ 0 → (zt_all T (min n 76) n 76 0 (10 - P)).1 = false → ∀ J', zy_fr zw_md J J' → J' 132 14 = 0 → K ((-1) - nI (zt_all T (min n 76) n 76 0 (10 - P)).2.1) (J', L, Y)) →
      (∀ acc, (n ≠ 0 → (zt_all T (min n 76) n 76 0 (10 - P)).1 = true ∧ acc = (zt_all T (min n 76) n 76 0 (10 - P)).2.2) → (n = 0 → acc = []) → ∀ J', zy_fr zw_md J J' → J' 132 14 = 0 → (∀ j, j < 6 → J' 142 j = zt_prc (J 137) acc j) → K (nI acc.length) (zx_u2 (zy_ro (zt_ap J' P (zt_nms acc) (zt_nms acc).length) 137 (J' 142) 6) 132 10 (if n = 0 then J 132 10 else 0), L, Y)) →
      zx_Ci l E (d + 4) 185 [.ref 132] (J, L, Y) K := fun J K hJ k0 k1 =>
    zy_185 (T := T) hY hk (by rw [hJ _ _ (by omega)]; exact t3) (fun j hj => by rw [hJ _ _ (by omega), ← (t4 j hj).1]; exact (eT j hj).1) hP (by rw [hJ _ _ (by omega)]; exact h3) k0 k1
  -- nothing is told
  have quiet : ∀ (J J' : Nat → Nat → Int32), zy_fr zw_ct I J → zy_fr zw_md (zx_u2 J 4 1 0) J' → J' 132 14 = 0 → zc_C J' P S b r H ∧ zc_T J' 0 ∧ zc_P J' ∧ zy_fr zw_cr I J' := fun J J' hJ hJ' h14 => by
    have f1 : zy_fr [(4, 1, 6), (14, 3, 5), (15, 0, 76), (16, 0, 76), (132, 0, 1), (132, 14, 18), (132, 20, 21), (141, 0, 10), (142, 0, 6)] I J' := zy_fr_tr (zy_fr_u2 (zy_fr_mono hJ (by decide)) (zy_in_at 0 4 1 6 1 rfl (by omega) (by omega))) (zy_fr_mono hJ' (by decide))
    refine ⟨zc_C_cong hC0 (zy_fr_on f1 (by decide)), ⟨Nat.zero_le _, ?_, h14, fun j hj => absurd hj (Nat.not_lt_zero _)⟩, zc_P_cong hPr (zy_fr_on f1 (by decide)), zy_fr_mono f1 (by decide)⟩
    rw [zy_fr_at hJ' 4 1 (by decide), zy_u2_self]; rfl
  have elm : ∀ J : Nat → Nat → Int32, zy_fr zw_ct I J → ∀ a k, 132 ≤ a → zx_u2 J 4 1 0 a k = I a k := fun J hJ a k ha => by
    rw [zy_u2_ne (by omega)]
    exact hJ a k (fun ⟨w, hw, e1, e2, e3⟩ => by
      simp only [zw_ct, List.mem_cons, List.not_mem_nil, or_false] at hw
      rcases hw with rfl | rfl | rfl | rfl <;> simp at e1 <;> omega)
  refine sg_120_0 hY ?_
  rw [e10]
  refine zy_c16 (T := T) hY hk t2 (fun j hj => (eT j hj).1) (by omega) (fun hn0 hf J hJ => ⟨hY, cut J _ hJ ⟨hY, fun _ => ⟨_, rfl, hY, ?_⟩, fun h => ?_⟩⟩) (fun hn0 hf J hJ j3 jr => ⟨hY, cut J _ hJ ⟨hY, fun h => ?_, fun _ => ?_⟩⟩) (fun hn0 J hJ => ⟨hY, cut J _ hJ ⟨hY, fun _ => ⟨_, rfl, hY, ?_⟩, fun h => ?_⟩⟩)
  · refine model _ _ (elm J hJ) (fun _ _ J' hJ' h14 => ⟨rfl, ?_⟩) (fun acc ha _ => ?_)
    · obtain ⟨a1, a2, a3, a4⟩ := quiet J J' hJ hJ' h14
      exact hq _ _ P H (Nat.le_refl _) a1 a2 a3 a4
    · have := (ha hn0).1
      rw [hf] at this; cases this
  · have hle : (zt_all T (min n 76) n 76 0 (10 - P)).2.1 ≤ min n 76 := by
      have : ∀ f i room, i ≤ min n 76 → (zt_all T (min n 76) n f i room).2.1 ≤ min n 76 := by
        intro f
        induction f with
        | zero => intro i room hi; exact hi
        | succ f ih =>
          intro i room hi
          have k1 := (zt_ln_ok (T := T) (room := room) hi).1
          rw [zt_all]
          split
          · exact k1
          · split
            · exact k1
            · split
              · rename_i h59
                exact ih _ _ (zt_s_lt h59 (by omega)).1
              · exact k1
      exact this 76 0 _ (Nat.zero_le _)
    exact absurd (negs _ (by omega)) h
  · obtain ⟨o1, o2, o3, o4⟩ := zt_all_ok (T := T) (to := min n 76) (n := n) 76 0 (10 - P) (Nat.zero_le _) hf
    rw [zy_le0 (by omega)] at h
    exact absurd (List.length_eq_zero_iff.mp h) o3
  · obtain ⟨o1, o2, o3, o4⟩ := zt_all_ok (T := T) (to := min n 76) (n := n) 76 0 (10 - P) (Nat.zero_le _) hf
    have hacc : (zt_all T (min n 76) n 76 0 (10 - P)).1 = true := hf
    generalize hz' : (zt_all T (min n 76) n 76 0 (10 - P)).2.2 = acc at *
    have hPn : P + (zt_nms acc).length ≤ 10 := by omega
    have J9 : ∀ p, p < 10 → zx_u2 J 4 1 0 9 p = I 9 p := fun p hp => by rw [zy_u2_na (by omega)]; exact zy_fr_row hJ 9 10 (by decide) hp
    refine zy_c18 (I := zx_u2 J 4 1 0) (P := P) (acc := acc) hY o4 o1 hPn (by rw [zy_u2_na (by omega)]; exact j3) (fun j q hj => by rw [zy_u2_na (by omega), zy_u2_na (by omega)]; exact jr j q hj) (by rw [zy_u2_na (by omega), zy_fr_at hJ 8 7 (by decide)]; exact h7) (fun p h1 h2 => by rw [J9 p h2]; exact (hz p h1 h2).1) (fun J3 hJ3 => ⟨hY, _, rfl, hY, ?_⟩)
    obtain ⟨d1, d2, d3, d4⟩ := hJ3
    have d1 : zy_fr zw_tl (zx_u2 J 4 1 0) J3 := d1
    have d3 : ∀ p, p < 10 → J3 9 p = if p < P then zx_u2 J 4 1 0 9 p else nI ((zt_nms acc).getD (p - P) 0) := d3
    have d4 : ∀ j, j < 6 → J3 11 j = zt_prc (zx_u2 J 4 1 0 11) acc j := d4
    have el3 : ∀ a k, 132 ≤ a → zx_u2 J3 8 5 0 a k = I a k := fun a k ha => by
      rw [zy_u2_ne (by omega), d1 a k (fun ⟨w, hw, e1, e2, e3⟩ => by
        simp only [zw_tl, List.mem_cons, List.not_mem_nil, or_false] at hw
        rcases hw with rfl | rfl | rfl <;> simp at e1 <;> omega)]
      exact elm J hJ a k ha
    refine model _ _ el3 (fun _ hf2 => ?_) (fun acc2 ha _ J' hJ' h14 h142 => ?_)
    · rw [hf] at hf2; cases hf2
    have hJ' : zy_fr zw_md (zx_u2 J3 8 5 0) J' := hJ'
    have h142 : ∀ j, j < 6 → J' 142 j = zt_prc (zx_u2 J3 8 5 0 137) acc2 j := h142
    obtain ⟨-, rfl⟩ := ha hn0
    refine ⟨rfl, ?_⟩
    rw [if_neg hn0]
    -- everything of the class lies as it was
    have lo : ∀ a k, a < 132 → zx_u2 (zy_ro (zt_ap J' P (zt_nms acc2) (zt_nms acc2).length) 137 (J' 142) 6) 132 10 0 a k = zx_u2 J3 8 5 0 a k := fun a k ha => by
      rw [zy_u2_na (by omega), zy_ro_ne (by omega)]
      unfold zt_ap
      rw [if_neg (by omega), if_neg (by omega), if_neg (by omega)]
      exact hJ' a k (fun ⟨w, hw, e1, e2, e3⟩ => by
        simp only [zw_md, List.mem_cons, List.not_mem_nil, or_false] at hw
        rcases hw with rfl | rfl | rfl | rfl | rfl <;> simp at e1 <;> omega)
    have hi : ∀ a k, 132 ≤ a → a ≠ 137 → ¬ (a = 132 ∧ (k = 3 ∨ k = 10)) → ¬ (134 ≤ a ∧ a ≤ 136 ∧ P ≤ k) → zx_u2 (zy_ro (zt_ap J' P (zt_nms acc2) (zt_nms acc2).length) 137 (J' 142) 6) 132 10 0 a k = J' a k := fun a k a1 a2 a3 a4 => by
      rw [zy_u2_ne (by omega), zy_ro_ne (by omega)]
      unfold zt_ap
      rw [if_neg (by omega), if_neg (by omega), if_neg (by omega)]
    have f1 : zy_fr zw_cr I (zx_u2 J3 8 5 0) := zy_fr_u2 (zy_fr_tr (zy_fr_u2 (zy_fr_mono hJ (by decide)) (zy_in_at 0 4 1 6 1 rfl (by omega) (by omega))) (zy_fr_mono d1 (by decide))) (zy_in_at 1 8 5 6 5 rfl (by omega) (by omega))
    have f2 : zy_fr zw_cr I J' := zy_fr_tr f1 (zy_fr_mono hJ' (by decide))
    have n9 : ∀ p, p < 10 → zx_u2 (zy_ro (zt_ap J' P (zt_nms acc2) (zt_nms acc2).length) 137 (J' 142) 6) 132 10 0 9 p = if p < P then I 9 p else nI ((zt_nms acc2).getD (p - P) 0) := fun p hp => by
      rw [lo 9 p (by omega), zy_u2_na (by omega), d3 p hp, J9 p hp]
    refine hq _ _ (P + (zt_nms acc2).length) [] (by omega) ⟨⟨hPn, ?_, ?_⟩, fun p hp => ?_, fun p hp => ⟨?_, ?_, ?_⟩, fun p h1 h2 => ⟨?_, ?_⟩, ⟨?_, ?_⟩, ⟨hb1, hb2, ?_, ?_⟩, ⟨hr, ?_, Nat.zero_le _, ?_, ?_⟩, fun t q hq => by simp at hq, trivial⟩ ⟨Nat.zero_le _, ?_, ?_, fun j hj => absurd hj (Nat.not_lt_zero _)⟩ (fun j hj => ⟨?_, ?_⟩) (zy_fr_tr f2 (zt_ap_fr hPn))
    · rw [lo 8 7 (by omega), zy_u2_nk (by omega)]; exact d2
    · rw [zy_u2_nk (by omega), zy_ro_ne (by omega)]; unfold zt_ap; rw [if_pos ⟨rfl, rfl⟩]
    · rw [n9 p hp]
      split
      · exact his p hp
      · by_cases z : p - P < (zt_nms acc2).length
        · refine zt_nms_fine o1 _ ?_
          rw [List.getD_eq_getElem?_getD, List.getElem?_eq_getElem z]
          exact List.getElem_mem z
        · rw [List.getD_eq_getElem?_getD, List.getElem?_eq_none (by omega)]; exact zy_is_0
    · rw [n9 p (by omega)]
      by_cases z : p < P
      · rw [if_pos z, hi 134 p (by omega) (by omega) (by omega) (by omega), zy_fr_row hJ' 134 10 (by decide) (k := p) (by omega), el3 _ _ (by omega)]; exact (hn p z).1
      · rw [if_neg z, zy_u2_na (by omega), zy_ro_ne (by omega)]
        unfold zt_ap
        rw [if_neg (by omega), if_pos (by omega)]
    · have e10 : zx_u2 J3 8 5 0 10 p = I 10 p := by rw [zy_u2_na (by omega), zy_fr_row d1 10 10 (by decide) (k := p) (by omega), zy_u2_na (by omega), zy_fr_row hJ 10 10 (by decide) (k := p) (by omega)]
      rw [lo 10 p (by omega), e10]
      by_cases z : p < P
      · rw [hi 135 p (by omega) (by omega) (by omega) (by omega), zy_fr_row hJ' 135 10 (by decide) (k := p) (by omega), el3 _ _ (by omega)]; exact (hn p z).2.1
      · rw [zy_u2_na (by omega), zy_ro_ne (by omega), (hz p (by omega) (by omega)).2]
        unfold zt_ap
        rw [if_neg (by omega), if_neg (by omega), if_pos (by omega)]
    · by_cases z : p < P
      · rw [hi 136 p (by omega) (by omega) (by omega) (by omega), zy_fr_row hJ' 136 10 (by decide) (k := p) (by omega), el3 _ _ (by omega)]; exact (hn p z).2.2
      · rw [zy_u2_na (by omega), zy_ro_ne (by omega), Nat.testBit_lt_two_pow (Nat.lt_of_lt_of_le hS (Nat.pow_le_pow_right (by omega) (by omega)))]
        unfold zt_ap
        rw [if_neg (by omega), if_neg (by omega), if_pos (by omega)]; rfl
    · rw [n9 p h2, if_neg (by omega), List.getD_eq_getElem?_getD, List.getElem?_eq_none (by omega)]; rfl
    · rw [lo 10 p (by omega), zy_u2_na (by omega), zy_fr_row d1 10 10 (by decide) (k := p) (by omega), zy_u2_na (by omega), zy_fr_row hJ 10 10 (by decide) (k := p) (by omega)]
      exact (hz p (by omega) h2).2
    · exact Nat.lt_of_lt_of_le hS (Nat.pow_le_pow_right (by omega) (by omega))
    · rw [lo 8 8 (by omega), zy_u2_nk (by omega), zy_fr_at d1 8 8 (by decide), zy_u2_na (by omega), zy_fr_at hJ 8 8 (by decide)]; exact h8
    · rw [lo 8 9 (by omega), zy_u2_nk (by omega), zy_fr_at d1 8 9 (by decide), zy_u2_na (by omega), zy_fr_at hJ 8 9 (by decide)]; exact hb3
    · rw [hi 132 8 (by omega) (by omega) (by omega) (by omega), zy_fr_at hJ' 132 8 (by decide), el3 _ _ (by omega)]; exact hb4
    · rw [lo 8 6 (by omega), zy_u2_nk (by omega), zy_fr_at d1 8 6 (by decide), zy_u2_na (by omega), zy_fr_at hJ 8 6 (by decide)]; exact h6
    · rw [lo 8 5 (by omega), zy_u2_self]; rfl
    · rw [zy_u2_self]; rfl
    · rw [lo 4 1 (by omega), zy_u2_na (by omega), zy_fr_at d1 4 1 (by decide), zy_u2_self]; rfl
    · rw [hi 132 14 (by omega) (by omega) (by omega) (by omega), h14]; rfl
    · rw [lo 11 j (by omega), zy_u2_na (i := 132) (by omega), zy_ro_in hj, h142 j hj, zy_u2_na (i := 8) (a := 11) (by omega), d4 j hj]
      refine zt_prc_cong (g := I 137) (h := I 11) acc2 _ _ (fun k hk => ?_) j hj
      rw [el3 _ _ (by omega), zy_u2_na (by omega), zy_fr_row hJ 11 6 (by decide) hk]; exact (hPr k hk).1
    · rw [lo 11 j (by omega), zy_u2_na (by omega), d4 j hj]
      refine zt_prc_ok acc2 _ o1 (fun k hk => ?_) j hj
      rw [zy_u2_na (by omega), zy_fr_row hJ 11 6 (by decide) hk]; exact (hPr k hk).2
  · refine model _ _ (elm J hJ) (fun h => absurd hn0 h) (fun acc _ ha J' hJ' h14 h142 => ?_)
    have hJ' : zy_fr zw_md (zx_u2 J 4 1 0) J' := hJ'
    obtain rfl := ha hn0
    refine ⟨rfl, ?_⟩
    rw [if_pos hn0]
    obtain ⟨a1, a2, a3, a4⟩ := quiet J J' hJ hJ' h14
    have h3' : J' 132 3 = nI P := a1.1.2.2
    have e : zx_u2 (zy_ro (zt_ap J' P (zt_nms []) (zt_nms []).length) 137 (J' 142) 6) 132 10 (zx_u2 J 4 1 0 132 10) = zy_ro J' 137 (J' 142) 6 := by
      funext a y
      by_cases z1 : a = 132 ∧ y = 10
      · rw [z1.1, z1.2, zy_u2_self, zy_ro_ne (by omega), zy_fr_at hJ' 132 10 (by decide)]
      · rw [zy_u2_ne z1]
        unfold zy_ro
        split
        · rfl
        · unfold zt_ap
          by_cases z2 : a = 132 ∧ y = 3
          · rw [if_pos z2, z2.1, z2.2]; exact h3'.symm
          · have hl0 : (zt_nms []).length = 0 := rfl
            rw [if_neg z2, if_neg (by omega), if_neg (by omega)]
    rw [e]
    have fro : zy_fr [(137, 0, 6)] J' (zy_ro J' 137 (J' 142) 6) := fun a k hk => by
      have g : ¬ (a = 137 ∧ k < 6) := fun q => hk (by rw [q.1]; exact zy_in_at 0 137 0 6 k rfl (by omega) q.2)
      unfold zy_ro; rw [if_neg g]
    refine hq _ _ P H (Nat.le_refl _) (zc_C_cong a1 (zy_fr_on fro (by decide))) (zc_T_cong a2 (zy_fr_on fro (by decide))) (fun j hj => ?_) (zy_fr_tr a4 (zy_fr_mono fro (by decide)))
    rw [zy_ro_in hj, zy_ro_ne (by omega), h142 j hj]
    refine ⟨?_, (a3 j hj).2⟩
    show zx_u2 J 4 1 0 137 j = _
    rw [elm J hJ _ _ (by omega), (hPr j hj).1, zy_fr_row hJ' 11 6 (by decide) hj, zy_u2_na (by omega), zy_fr_row hJ 11 6 (by decide) hj]
  · exact absurd (show (0 : Int32) ≤ 0 by decide) h
end YJc
