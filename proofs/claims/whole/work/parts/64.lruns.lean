/-! ===== what a listener knows: runs, knows, asks of the reference ===== -/
section YLr
variable {l : Launch} {E : zx_E} {d : Nat} {I : Nat → Nat → Int32} {L : Nat → Nat → Int64} {Y : zx_Y} {Qo : Option Value → zx_M → Prop} {Q : Int32 → zx_M → Prop} {Qv : zx_M → Prop} {hc : Nat → Nat} {ha : Nat → Bool} {m w : Nat}
/-- what those that fit came to -/
def zl_V (hc : Nat → Nat) (ha : Nat → Bool) (m w : Nat) : List Nat := (zl_fits hc ha m w).map (zl_v hc ha m)
theorem zl_V_ok (w1 : 1 ≤ w) (w2 : w ≤ 6) : (zl_V hc ha m w).length = (zl_fits hc ha m w).length ∧ (zl_V hc ha m w).length ≤ 9330 ∧ (∀ j, (zl_V hc ha m w).getD j 0 < 16807) ∧ ∀ i j, i < j → j < (zl_V hc ha m w).length → (zl_V hc ha m w).getD i 0 < (zl_V hc ha m w).getD j 0 := by
  have hN := (zl_of5 w2 w1).1
  have hF := zl_F_ok (w := w) (p := zl_p hc ha m) (zl_of w 5)
  have hs := (zl_fits_v (hc := hc) (ha := ha) (m := m) w2 w1).1
  refine ⟨List.length_map .., ?_, fun j => ?_, fun i j hij hj => zo_srt_lt hs hij hj⟩
  · unfold zl_V zl_fits
    rw [List.length_map]; omega
  · by_cases h : j < (zl_V hc ha m w).length
    · have hm : (zl_V hc ha m w).getD j 0 ∈ zl_V hc ha m w := by rw [List.getD_eq_getElem?_getD, List.getElem?_eq_getElem h]; exact List.getElem_mem _
      obtain ⟨c, hcm, e⟩ := List.mem_map.mp hm
      obtain ⟨i, a, b, hp⟩ := (hF.2 c).mp hcm
      rw [← e]
      have b4 := (zl_It_ok w2 w1 a).2.2.2
      rw [b] at b4
      unfold zl_v
      cases hz : zl_hb hc ha m 0 c with
      | none => exact Nat.lt_of_lt_of_le (by decide) (Nat.le_refl _)
      | some v => exact Nat.lt_of_le_of_lt (zl_hb_lt m 0 _ _ hz) b4
    · rw [List.getD_eq_getElem?_getD, List.getElem?_eq_none (by omega)]; decide
theorem zy_253 (hY : zx_lay Y) (hD : zl_D I hc ha m w)
    (hq : ∀ J, zy_fr zw_ln I J → J 132 44 = nI (zl_V hc ha m w).length → (∀ j, j < (zl_V hc ha m w).length → J 155 j = nI ((zl_V hc ha m w).getD j 0)) → (0 < (zl_V hc ha m w).length → J 132 45 = nI ((zl_V hc ha m w).getD 0 0) ∧ J 132 46 = 1) → Q (nI (zl_V hc ha m w).length) (J, L, Y)) : zx_Ci l E (d + 16) 253 [.ref 132] (I, L, Y) Q := by
  obtain ⟨⟨m1, m2⟩, ⟨w1, w2, w3⟩, hh⟩ := id hD
  obtain ⟨v1, v2, v3, v4⟩ := zl_V_ok (hc := hc) (ha := ha) (m := m) w1 w2
  have hlen := v1
  refine sg_253_0 hY (zy_249 hY hD ⟨hY, ?_⟩)
  have frW : zy_fr zw_ln I (zl_W I (zl_fits hc ha m w) (zl_v hc ha m)) := zl_W_fr (by omega)
  have w44 : zl_W I (zl_fits hc ha m w) (zl_v hc ha m) 132 44 = nI (zl_V hc ha m w).length := by rw [zl_W_44, v1]
  have w154 : ∀ j, j < (zl_V hc ha m w).length → zl_W I (zl_fits hc ha m w) (zl_v hc ha m) 154 j = nI ((zl_V hc ha m w).getD j 0) := fun j hj => by
    rw [zl_W_ev, if_pos ⟨rfl, by omega⟩]; rfl
  generalize hWW : zl_W I (zl_fits hc ha m w) (zl_v hc ha m) = W at *
  generalize hV : zl_V hc ha m w = V at *
  have i155 : ∀ j, j < 9331 → zy_in zw_ln 155 j := fun j hj => zy_in_at 3 155 0 9331 j rfl (by omega) hj
  -- the loop over all of them, sorted
  have loop : ∀ r k J, r + k = V.length → zy_fr zw_ln I J → J 132 44 = nI V.length → (∀ j, j < V.length → J 155 j = nI (V.getD j 0)) → (0 < k → J 132 45 = nI (V.getD 0 0) ∧ J 132 46 = 1) → (k = 0 → J 132 46 = 0) → zx_To l E (d + 16) 253 52 [some (.ref 132), some (.int (nI k)), some (.int (nI (if k = 0 then 0 else 1))), some (.int (nI k)), none] [] (J, L, Y) (fun r M' => ∃ v, r = some (.int v) ∧ Q v M') := by
    intro r
    induction r with
    | zero =>
      intro k J hk hJ h44 h155 h45 _
      have ek : k = V.length := by omega
      subst ek
      refine sg_253_52 hY _ _ _ ⟨fun _ => ⟨_, rfl, hq J hJ h44 h155 h45⟩, fun h => absurd ?_ h⟩
      rw [h44]; exact nI_le (Nat.le_refl _) (by omega)
    | succ r ih =>
      intro k J hk hJ h44 h155 h45 h46
      have hv := vp_in_nI (n := k) (N := 9331) (by omega) (by omega)
      -- a run of one begins
      have anew : zx_To l E (d + 16) 253 81 [some (.ref 132), some (.int (nI k)), some (.int (nI (if k = 0 then 0 else 1))), some (.int (nI k)), none] [] (J, L, Y) (fun r M' => ∃ v, r = some (.int v) ∧ Q v M') := by
        refine sg_253_81 hY _ _ _ (sg_253_86 hY _ _ _ _ (zy_169b (b := true) hY ⟨hY, fun h => absurd h (by decide), fun _ => ?_⟩))
        have e1 : nI k + nI (if true then 1 else 0) = nI (k + 1) := nI_add k 1
        rw [e1]
        have go : ∀ y : Int32, y = nI (V.getD 0 0) → zx_To l E (d + 16) 253 131 [some (.ref 132), some (.int (nI (k + 1))), some (.int 1), some (.int (nI k)), none] [.int y, .ref 132] (J, L, Y) (fun r M' => ∃ v, r = some (.int v) ∧ Q v M') := by
          intro y hy
          refine sg_253_131 hY _ _ _ _ ?_
          have e46 : (if J 132 46 < 1 then (1 : Int32) else J 132 46) = 1 := by
            by_cases hk0 : k = 0
            · rw [h46 hk0]; decide
            · rw [(h45 (by omega)).2]; decide
          rw [e46, nI_1]
          have := ih (k + 1) (zx_u2 (zx_u2 J 132 45 y) 132 46 1) (by omega) (zy_fr_u2 (zy_fr_u2 hJ (zy_in_at 0 132 44 47 45 rfl (by omega) (by omega))) (zy_in_at 0 132 44 47 46 rfl (by omega) (by omega))) (by rw [zy_u2_nk (by omega), zy_u2_nk (by omega)]; exact h44) (fun j hj => by rw [zy_u2_na (by omega), zy_u2_na (by omega)]; exact h155 j hj) (fun _ => ⟨by rw [zy_u2_nk (by omega), zy_u2_self]; exact hy, zy_u2_self⟩) (fun h => by omega)
          rw [if_neg (by omega)] at this
          exact this
        refine sg_253_108 hY _ _ _ ⟨fun h => ?_, fun h => ?_⟩
        · refine go _ ?_
          by_cases hk0 : k = 0
          · have h : (1 : Int32) ≤ J 132 46 := h
            rw [h46 hk0] at h; exact absurd h (by decide)
          · exact (h45 (by omega)).1
        · rw [nI_clamp (by omega)]
          refine ⟨hv, go _ ?_⟩
          by_cases hk0 : k = 0
          · show J 155 k = _
            rw [hk0]; exact h155 0 (by omega)
          · have h : ¬ (1 : Int32) ≤ J 132 46 := h
            rw [(h45 (by omega)).2] at h; exact absurd (by decide) h
      refine sg_253_52 hY _ _ _ ⟨fun h => ?_, fun _ => ⟨fun _ => anew, fun h => ?_⟩⟩
      · rw [h44] at h
        exact absurd ((nI_leI (by omega) (by omega)).mp h) (by omega)
      · have hk0 : k ≠ 0 := fun z => h (by rw [z]; rfl)
        have ep : nI k - 1 = nI (k - 1) := pk_sub (a := k) (b := 1) (by omega)
        rw [ep, nI_clamp (by omega), nI_clamp (by omega), h155 k (by omega), h155 (k - 1) (by omega)]
        refine ⟨hv, vp_in_nI (by omega) (by omega), fun h2 => ?_, fun _ => anew⟩
        have b1 := v3 k
        have b2 := v3 (k - 1)
        have := (nI_eq (by omega) (by omega)).mp h2
        have := v4 (k - 1) k (by omega) (by omega)
        omega
  -- they are copied first
  have copy : ∀ r i, r + i = V.length → zx_To l E (d + 16) 253 6 [some (.ref 132), some (.int (nI i)), none, none, none] [] (zo_wr W 155 (V.take i), L, Y) (fun r M' => ∃ v, r = some (.int v) ∧ Q v M') := by
    intro r
    induction r with
    | zero =>
      intro i hi
      have ei : i = V.length := by omega
      subst ei
      rw [List.take_length]
      have e44 : zo_wr W 155 V 132 44 = nI V.length := by rw [zo_wr_el (by omega)]; exact w44
      refine sg_253_6 hY _ ⟨fun _ => ?_, fun h => absurd (by rw [e44]; exact nI_le (Nat.le_refl _) (by omega)) h⟩
      rw [e44, ← nI_0, show d + 15 = d + 14 + 1 by omega]
      refine zy_250 hY (s := fun j => V.getD j 0) (fun j => by have := v3 j; omega) (N := V.length) (by omega) (fun i j hij hj => ?_) 14 d 0 V.length (zo_wr W 155 V) _ (by omega) (Nat.le_refl _) (by omega) (fun j hj => zo_wr_at hj) (fun J hJ => ⟨hY, ?_⟩)
      · by_cases e : i = j
        · rw [e]; exact Nat.le_refl _
        · exact Nat.le_of_lt (v4 i j (by omega) hj)
      · have frA : zy_fr zw_ln I (zo_wr W 155 V) := fun a k hk => by
          have : ¬ (a = 155 ∧ k < V.length) := fun q => hk (by rw [q.1]; exact i155 k (by omega))
          unfold zo_wr; rw [if_neg this]; exact frW a k hk
        have frJ : zy_fr zw_ln I J := zy_fr_tr frA (zy_fr_mono hJ (by decide))
        exact loop V.length 0 (zx_u2 J 132 46 0) (by omega) (zy_fr_u2 frJ (zy_in_at 0 132 44 47 46 rfl (by omega) (by omega))) (by rw [zy_u2_nk (by omega), zy_fr_at hJ 132 44 (by decide)]; exact e44) (fun j hj => by rw [zy_u2_na (by omega), zy_fr_row hJ 155 9331 (by decide) (by omega)]; exact zo_wr_at hj) (fun h => by omega) (fun _ => zy_u2_self)
    | succ r ih =>
      intro i hi
      have e44 : zo_wr W 155 (V.take i) 132 44 = nI V.length := by rw [zo_wr_el (by omega)]; exact w44
      have hv := vp_in_nI (n := i) (N := 9331) (by omega) (by omega)
      refine sg_253_6 hY _ ⟨fun h => ?_, fun _ => ⟨hv, hv, ?_⟩⟩
      · rw [e44] at h
        exact absurd ((nI_leI (by omega) (by omega)).mp h) (by omega)
      · rw [nI_clamp (by omega), nI_1, zo_wr_el (a := 154) (by omega), w154 i (by omega)]
        have gt : ∀ j k, k < j → (V.take j).getD k 0 = V.getD k 0 := fun j k h => by
          rw [List.getD_eq_getElem?_getD, List.getElem?_take_of_lt h, List.getD_eq_getElem?_getD]
        have ew : zx_u2 (zo_wr W 155 (V.take i)) 155 i (nI (V.getD i 0)) = zo_wr W 155 (V.take (i + 1)) := by
          funext a k
          by_cases z : a = 155 ∧ k = i
          · rw [z.1, z.2, zy_u2_self, zo_wr_at (by rw [List.length_take]; omega), gt _ _ (by omega)]
          · rw [zy_u2_ne z]
            unfold zo_wr
            rw [List.length_take, List.length_take]
            by_cases z2 : a = 155 ∧ k < i
            · rw [if_pos (by omega), if_pos (by omega), gt _ _ z2.2, gt _ _ (by omega)]
            · rw [if_neg (by omega), if_neg (by omega)]
        rw [ew]
        exact ih (i + 1) (by omega)
  have := copy V.length 0 (by omega)
  rw [List.take_zero, zo_wr_nil] at this
  exact this
theorem zy_254 (hY : zx_lay Y) (hD : zl_D (zx_u2 I 132 0 0) hc ha m w)
    (hq0 : (zl_V hc ha m w).length = 0 → ∀ J, zy_fr zw_ln (zx_u2 I 132 0 0) J → Q (-2) (J, L, Y))
    (hq1 : 0 < (zl_V hc ha m w).length → ∀ J, zy_fr zw_ln (zx_u2 I 132 0 0) J → Q (nI (zl_V hc ha m w).length) (zy_ent J [nI ((zl_V hc ha m w).getD 0 0), 1], L, Y)) : zx_Ci l E (d + 17) 254 [.ref 132] (I, L, Y) Q := by
  obtain ⟨⟨m1, m2⟩, ⟨w1, w2, w3⟩, hh⟩ := id hD
  obtain ⟨v1, v2, v3, v4⟩ := zl_V_ok (hc := hc) (ha := ha) (m := m) w1 w2
  refine sg_254_0 hY (zy_253 hY hD (fun J hJ h44 h155 h45 => ⟨hY, ?_⟩))
  rw [zy_eq0 (by omega)]
  refine ⟨fun h => ?_, fun h => ⟨_, rfl, hq0 h J hJ⟩⟩
  obtain ⟨a1, a2⟩ := h45 (by omega)
  dsimp only
  rw [a1, zy_ent_nil]
  refine zy_170 hY (by simp) ⟨hY, ?_⟩
  have e46 : zy_ent J ([] ++ [nI ((zl_V hc ha m w).getD 0 0)]) 132 46 = 1 := by rw [zy_ent_el (by omega)]; exact a2
  dsimp only
  rw [e46]
  exact zy_170 hY (by simp) ⟨hY, _, rfl, hq1 (by omega) J hJ⟩
theorem zy_255 (hY : zx_lay Y) (hD : zl_D (zx_u2 I 132 0 0) hc ha m w) (hpos : 2 ≤ (zl_V hc ha m w).length → 0 < (zl_V hc ha m w).getD 0 0)
    (hq0 : (zl_V hc ha m w).length = 0 → ∀ J, zy_fr zw_ln (zx_u2 I 132 0 0) J → Q (-2) (J, L, Y))
    (hq1 : 0 < (zl_V hc ha m w).length → ∀ J, zy_fr zw_ln (zx_u2 I 132 0 0) J → Q (if (zl_V hc ha m w).length = 1 then 1 else nI ((zl_V hc ha m w).getD 0 0)) (zy_ent J [nI (max 1 ((zl_V hc ha m w).length - 1))], L, Y)) : zx_Ci l E (d + 17) 255 [.ref 132] (I, L, Y) Q := by
  obtain ⟨⟨m1, m2⟩, ⟨w1, w2, w3⟩, hh⟩ := id hD
  obtain ⟨v1, v2, v3, v4⟩ := zl_V_ok (hc := hc) (ha := ha) (m := m) w1 w2
  refine sg_255_0 hY (zy_253 hY hD (fun J hJ h44 h155 h45 => ⟨hY, ?_⟩))
  rw [zy_eq0 (by omega)]
  refine ⟨fun h => ?_, fun h => ⟨_, rfl, hq0 h J hJ⟩⟩
  have hq := hq1 (by omega) J hJ
  generalize zl_V hc ha m w = V at *
  dsimp only
  rw [h44]
  have hN : 1 ≤ V.length := by omega
  have ep1 : nI V.length - 1 = nI (V.length - 1) := pk_sub (a := V.length) (b := 1) hN
  -- worst and best behind the first
  have loop : ∀ r k, r + k = V.length → zx_To l E (d + 17) 255 27 [some (.ref 132), some (.int (if k = 0 then 1 else if V.length = 1 then 1 else nI (V.getD 0 0))), some (.int (nI (if k = 0 then V.length else max 1 (V.length - 1)))), some (.int (nI (if k = 0 then 0 else 1))), some (.int (nI k)), none] [] (J, L, Y) (fun r M' => ∃ v, r = some (.int v) ∧ Q v M') := by
    intro r
    induction r with
    | zero =>
      intro k hk
      have k0 : k ≠ 0 := by omega
      rw [if_neg k0, if_neg k0, if_neg k0]
      refine sg_255_27 hY _ _ _ _ ⟨fun _ => ?_, fun h => absurd (by rw [h44]; exact nI_le (by omega) (by omega)) h⟩
      rw [zy_ent_nil]
      exact zy_170 hY (by simp) ⟨hY, _, rfl, hq⟩
    | succ r ih =>
      intro k hk
      have next := ih (k + 1) (by omega)
      rw [if_neg (show ¬ k + 1 = 0 by omega), if_neg (show ¬ k + 1 = 0 by omega), if_neg (show ¬ k + 1 = 0 by omega)] at next
      have hv := vp_in_nI (n := k) (N := 9331) (by omega) (by omega)
      have b1 := v3 k
      -- behind the run
      have last : ∀ x1 x2 : Int32, zx_To l E (d + 17) 255 103 [some (.ref 132), some (.int x1), some (.int x2), some (.int 1), some (.int (nI k)), none] [.int 1] (J, L, Y) (fun r M' => ∃ v, r = some (.int v) ∧ Q v M') → zx_To l E (d + 17) 255 67 [some (.ref 132), some (.int x1), some (.int x2), none, some (.int (nI k)), none] [.int 1] (J, L, Y) (fun r M' => ∃ v, r = some (.int v) ∧ Q v M') := by
        intro x1 x2 hg
        have hg2 := sg_255_98 hY _ _ _ _ hg
        refine sg_255_67 hY _ _ _ _ ⟨fun _ => hg2, fun h => ?_⟩
        have hk2 : k + 1 < V.length := by
          by_cases z : k + 1 < V.length
          · exact z
          · refine absurd ?_ h
            rw [h44, ep1]
            congr 1; omega
        have b2 := v3 (k + 1)
        rw [nI_1, nI_clamp (by omega), nI_clamp (by omega), h155 k (by omega), h155 (k + 1) hk2, nI_eq (by omega) (by omega)]
        refine ⟨vp_in_nI (by omega) (by omega), hv, fun e => ?_, fun _ => hg2⟩
        have := v4 k (k + 1) (by omega) hk2
        omega
      have run1 : ∀ x1 x2 : Int32, zx_To l E (d + 17) 255 67 [some (.ref 132), some (.int x1), some (.int x2), none, some (.int (nI k)), none] [.int 1] (J, L, Y) (fun r M' => ∃ v, r = some (.int v) ∧ Q v M') → zx_To l E (d + 17) 255 27 [some (.ref 132), some (.int x1), some (.int x2), some (.int (nI (if k = 0 then 0 else 1))), some (.int (nI k)), none] [] (J, L, Y) (fun r M' => ∃ v, r = some (.int v) ∧ Q v M') := by
        intro x1 x2 hg
        have hg2 := sg_255_60 hY _ _ _ hg
        refine sg_255_27 hY _ _ _ _ ⟨fun h => ?_, fun _ => ⟨fun _ => hg2, fun h => ?_⟩⟩
        · rw [h44] at h
          exact absurd ((nI_leI (by omega) (by omega)).mp h) (by omega)
        · have hk0 : k ≠ 0 := fun z => h (by rw [z]; rfl)
          have ep : nI k - 1 = nI (k - 1) := pk_sub (a := k) (b := 1) (by omega)
          have b2 := v3 (k - 1)
          rw [ep, nI_clamp (by omega), nI_clamp (by omega), h155 k (by omega), h155 (k - 1) (by omega), nI_eq (by omega) (by omega)]
          refine ⟨hv, vp_in_nI (by omega) (by omega), fun e => ?_, fun _ => hg2⟩
          have := v4 (k - 1) k (by omega) (by omega)
          omega
      refine run1 _ _ (last _ _ ?_)
      have em : (if (1 : Int32) < J 132 44 - 1 then J 132 44 - 1 else 1) = nI (max 1 (V.length - 1)) := by
        rw [h44, ep1]
        by_cases z : 1 < V.length - 1
        · rw [if_pos (show (1 : Int32) < nI (V.length - 1) from (nI_ltI (a := 1) (by omega) (by omega)).mpr z), show max 1 (V.length - 1) = V.length - 1 by omega]
        · rw [if_neg (show ¬ (1 : Int32) < nI (V.length - 1) from fun q => z ((nI_ltI (a := 1) (by omega) (by omega)).mp q)), show max 1 (V.length - 1) = 1 by omega]; rfl
      refine sg_255_103 hY _ _ _ _ _ ⟨fun h => absurd h (by decide), fun _ => ⟨hv, ?_⟩⟩
      rw [em, nI_clamp (by omega), h155 k (by omega), zy_le0 (by omega), nI_leI (by split <;> omega) (by omega)]
      have nx : ∀ x1 x2 : Int32, x1 = (if V.length = 1 then 1 else nI (V.getD 0 0)) → x2 = nI (max 1 (V.length - 1)) → zx_To l E (d + 17) 255 153 [some (.ref 132), some (.int x1), some (.int x2), some (.int 1), some (.int (nI k)), none] [] (J, L, Y) (fun r M' => ∃ v, r = some (.int v) ∧ Q v M') := by
        intro x1 x2 h1 h2
        refine sg_255_153 hY _ _ _ _ ?_
        rw [nI_1, h1, h2]
        exact next
      by_cases hk0 : k = 0
      · rw [if_pos hk0, if_pos hk0]
        by_cases h1 : V.length = 1
        · have e1 : (1 : Int32) = if V.length = 1 then 1 else nI (V.getD 0 0) := by rw [if_pos h1]
          have e2 : nI V.length = nI (max 1 (V.length - 1)) := by congr 1; omega
          exact ⟨fun _ => nx _ _ e1 e2, fun _ => ⟨fun _ => nx _ _ e1 e2, fun h => by omega⟩⟩
        · have hp := hpos (by omega)
          rw [hk0]
          refine ⟨fun h => by omega, fun _ => ⟨fun h => by omega, fun _ => ⟨vp_in_nI (by omega) (by omega), ?_⟩⟩⟩
          rw [hk0] at nx
          exact nx _ _ (by rw [if_neg h1]) rfl
      · rw [if_neg hk0, if_neg hk0]
        exact ⟨fun _ => nx _ _ rfl rfl, fun _ => ⟨fun _ => nx _ _ rfl rfl, fun h => by omega⟩⟩
  have := loop V.length 0 (by omega)
  rw [if_pos rfl, if_pos rfl, if_pos rfl] at this
  exact this
end YLr
