/-! ===== new names: the class chooses ===== -/
def zn_f1 (p : Nat) (I J : Nat → Nat → Int32) : Prop := ∀ a k, ¬ (p ≤ a ∧ a ≤ p + 2) → J a k = I a k
def zn_fh (D : Nat) (I J : Nat → Nat → Int32) : Prop := ∀ a k, (∀ i, D ≤ i → i < 6 → ¬ (84 + 6 * i ≤ a ∧ a ≤ 86 + 6 * i)) → J a k = I a k
theorem zn_all_inv {κ : Nat → Nat} {L : Nat} : ∀ (ys xs : List Nat), xs.Pairwise (fun a b => κ a < κ b) → ys.Pairwise (fun a b => κ a < κ b) → (∀ x ∈ xs, ∀ y ∈ ys, κ x ≠ κ y) → xs.length ≤ L → (zn_all κ L xs ys).Pairwise (fun a b => κ a < κ b) ∧ (zn_all κ L xs ys).length ≤ L ∧ ∀ z ∈ zn_all κ L xs ys, z ∈ xs ∨ z ∈ ys
  | [], xs, h1, _, _, h4 => ⟨h1, h4, fun z hz => Or.inl hz⟩
  | y :: ys, xs, h1, h2, h3, h4 => by
    rw [List.pairwise_cons] at h2
    obtain ⟨a1, a2, a3⟩ := zn_add_ok (L := L) (e := y) h1 (fun x hx => h3 x hx y List.mem_cons_self)
    obtain ⟨b1, b2, b3⟩ := zn_all_inv ys (zn_add κ L y xs) a1 h2.2 (fun x hx z hz => by
      rcases a3 x hx with rfl | hx
      · exact Nat.ne_of_lt (h2.1 z hz)
      · exact h3 x hx z (List.mem_cons_of_mem _ hz)) a2
    refine ⟨b1, b2, fun z hz => ?_⟩
    rcases b3 z hz with q | q
    · rcases a3 z q with rfl | q
      · exact Or.inr List.mem_cons_self
      · exact Or.inl q
    · exact Or.inr (List.mem_cons_of_mem _ q)
theorem zn_all_app {κ : Nat → Nat} {L : Nat} {xs ys : List Nat} {y : Nat} : zn_all κ L xs (ys ++ [y]) = zn_add κ L y (zn_all κ L xs ys) := by unfold zn_all; rw [List.foldl_append]; rfl
theorem zn_c_le {pr : Nat → Nat} (hpr : ∀ x, 1 ≤ x → x ≤ 6 → pr x ≤ 9) : ∀ r e, zn_d r e → zn_c pr e ≤ 9 * r
  | 0, e, h => by rw [zn_d_0.mp h, zn_c_0]; exact Nat.zero_le _
  | r + 1, e, h => by
    obtain ⟨x, e1, a, b, c, rfl⟩ := zn_uncons r e h
    rw [(zn_cons (pr := pr) a b r e1 c).2]
    have := zn_c_le hpr r e1 c
    have := hpr x a b
    omega
/-- what partial lists of letters hold -/
theorem zn_st_inv {pr : Nat → Nat} {L r : Nat} (hr : r + 1 ≤ 5) {ch : Nat → List Nat} (hch : ∀ x, 1 ≤ x → x ≤ 6 → (ch x).Pairwise (fun a b => zn_k pr a < zn_k pr b) ∧ ∀ e ∈ ch x, zn_d r e) : ∀ j, j ≤ 6 → (zn_st pr L r ch j).Pairwise (fun a b => zn_k pr a < zn_k pr b) ∧ (zn_st pr L r ch j).length ≤ L ∧ ∀ e ∈ zn_st pr L r ch j, ∃ x e1, 1 ≤ x ∧ x ≤ j ∧ zn_d r e1 ∧ e = x * 7 ^ r + e1
  | 0, _ => ⟨List.Pairwise.nil, Nat.zero_le _, fun e he => (by cases he)⟩
  | j + 1, hj => by
    obtain ⟨a1, a2, a3⟩ := zn_st_inv (L := L) hr hch j (by omega)
    obtain ⟨c1, c2⟩ := hch (j + 1) (by omega) hj
    have hp5 : 7 ^ (r + 1) ≤ 16807 := zn_pow5 hr
    rw [Nat.pow_succ] at hp5
    have ys : ((ch (j + 1)).map (fun e => (j + 1) * 7 ^ r + e)).Pairwise (fun a b => zn_k pr a < zn_k pr b) := by
      rw [List.pairwise_map]
      refine List.Pairwise.imp_of_mem ?_ c1
      intro u v hu hv huv
      rw [zn_k_sh (by omega) hj (c2 u hu), zn_k_sh (by omega) hj (c2 v hv)]; omega
    rw [zn_st]
    obtain ⟨b1, b2, b3⟩ := zn_all_inv (L := L) _ _ a1 ys (fun x hx y hy hk => by
      obtain ⟨u, e1, u1, u2, u3, rfl⟩ := a3 x hx
      obtain ⟨e2, h2, rfl⟩ := List.mem_map.mp hy
      have l1 := zn_d_lt u3
      have l2 := zn_d_lt (c2 e2 h2)
      have m1 : u * 7 ^ r ≤ 6 * 7 ^ r := Nat.mul_le_mul_right _ (by omega)
      have m2 : (j + 1) * 7 ^ r ≤ 6 * 7 ^ r := Nat.mul_le_mul_right _ hj
      have := zn_k_inj (by omega) (by omega) hk
      have := (zn_blk l1 l2 this).1
      omega) a2
    refine ⟨b1, b2, fun e he => ?_⟩
    rcases b3 e he with q | q
    · obtain ⟨x, e1, u1, u2, u3, u4⟩ := a3 e q
      exact ⟨x, e1, u1, by omega, u3, u4⟩
    · obtain ⟨e2, h2, rfl⟩ := List.mem_map.mp q
      exact ⟨j + 1, e2, by omega, Nat.le_refl _, c2 e2 h2, rfl⟩
def zn_B (I : Nat → Nat → Int32) (bs : List Nat) : Prop := bs.length ≤ 10 ∧ I 76 6 = nI bs.length ∧ ∀ j, j < bs.length → I 77 j = nI (bs.getD j 0) ∧ bs.getD j 0 < 5764801
/-- what the class knows as it chooses -/
def zn_E (I : Nat → Nat → Int32) (Y : zx_Y) (n ap many q1 : Nat) (bs : List Nat) (pr : Nat → Nat) : Prop :=
  (I 76 7 = nI n ∧ I 76 8 = nI ap ∧ I 76 9 = nI many) ∧ (1 ≤ n ∧ n ≤ 5 ∧ 1 ≤ ap ∧ ap ≤ n ∧ 1 ≤ many ∧ many ≤ 6) ∧
  zn_B I bs ∧
  (Y.1 76 5 = some q1 ∧ (q1 = 11 ∨ q1 = 78) ∧ ∀ x, 1 ≤ x → x ≤ 6 → I q1 (x - 1) = nI (pr x) ∧ pr x ≤ 9) ∧
  (∀ j, j < 6 → I 1 j = nI (7 ^ j) ∧ I 2 j = nI (6 ^ j))
theorem zn_E_cong {I J : Nat → Nat → Int32} {Y : zx_Y} {n ap many q1 : Nat} {bs : List Nat} {pr : Nat → Nat} (h : zn_E I Y n ap many q1 bs pr) (hf : ∀ a k, a ≤ 78 → J a k = I a k) : zn_E J Y n ap many q1 bs pr := by
  obtain ⟨⟨a1, a2, a3⟩, a4, ⟨b1, b2, b3⟩, ⟨c1, c2, c3⟩, e1⟩ := h
  have hq : q1 ≤ 78 := by omega
  refine ⟨⟨?_, ?_, ?_⟩, a4, ⟨b1, ?_, fun j hj => ?_⟩, ⟨c1, c2, fun x h1 h2 => ?_⟩, fun j hj => ?_⟩
  · rw [hf _ _ (by omega)]; exact a1
  · rw [hf _ _ (by omega)]; exact a2
  · rw [hf _ _ (by omega)]; exact a3
  · rw [hf _ _ (by omega)]; exact b2
  · rw [hf _ _ (by omega)]; exact b3 j hj
  · rw [hf _ _ hq]; exact c3 x h1 h2
  · rw [hf _ _ (by omega), hf _ _ (by omega)]; exact e1 j hj
section YCh
variable {l : Launch} {E : zx_E} {d : Nat} {I : Nat → Nat → Int32} {L : Nat → Nat → Int64} {Y : zx_Y} {Qo : Option Value → zx_M → Prop} {Q : Int32 → zx_M → Prop} {Qv : zx_M → Prop} {pr : Nat → Nat} {n ap many q1 : Nat} {bs : List Nat}
theorem zy_c77 (hY : zx_lay Y) {p0 p1 Lm c2 c3 : Nat} {xs es : List Nat} (hp0 : zn_cell Y p0) (hp1 : zn_cell Y p1) (hne : p0 + 3 ≤ p1 ∨ p1 + 3 ≤ p0) (hL : Lm ≤ 6) (hlen : xs.length ≤ Lm) (hes6 : es.length ≤ 6) (h3 : I p0 3 = nI Lm) (hP0 : zn_P I p0 pr xs) (hP1 : zn_P I p1 pr es)
    (hs : xs.Pairwise (fun a b => zn_k pr a < zn_k pr b)) (hes : (es.map (fun e => c3 + e)).Pairwise (fun a b => zn_k pr a < zn_k pr b)) (hc : ∀ e ∈ es, zn_c pr (c3 + e) = zn_c pr e + c2) (hb : ∀ x ∈ xs, x < 16807 ∧ zn_c pr x < 2 ^ 30) (hbe : ∀ e ∈ es, c3 + e < 16807 ∧ zn_c pr (c3 + e) < 2 ^ 30) (hlt : ∀ x ∈ xs, ∀ e ∈ es, x < c3 + e)
    (hq : ∀ J, zn_f1 p0 I J → J p0 3 = nI Lm → zn_P J p0 pr (zn_all (zn_k pr) Lm xs (es.map (fun e => c3 + e))) → Qv (J, L, Y)) : zx_Cv l E (d + 2) 77 [.ref p0, .ref p1, .int (nI c2), .int (nI c3)] (I, L, Y) Qv := by
  obtain ⟨k1, k2, k3, k4⟩ := id hp1
  have gm : ∀ k, k < es.length → es.getD k 0 ∈ es := fun k hk => by rw [List.getD_eq_getElem?_getD, List.getElem?_eq_getElem hk]; exact List.getElem_mem _
  generalize hys : es.map (fun e => c3 + e) = ys at *
  have hyl : ys.length = es.length := by rw [← hys, List.length_map]
  have hy : ∀ k, k < es.length → ys.getD k 0 = c3 + es.getD k 0 := fun k hk => by
    rw [← hys, List.getD_eq_getElem?_getD, List.getElem?_map, List.getElem?_eq_getElem hk, List.getD_eq_getElem?_getD, List.getElem?_eq_getElem hk]; rfl
  have ymem : ∀ y ∈ ys, ∃ e ∈ es, y = c3 + e := fun y h => by rw [← hys] at h; obtain ⟨e, h1, h2⟩ := List.mem_map.mp h; exact ⟨e, h1, h2.symm⟩
  have kne : ∀ x ∈ xs, ∀ y ∈ ys, zn_k pr x ≠ zn_k pr y := fun x hx y hyy hk => by
    obtain ⟨e, he, rfl⟩ := ymem y hyy
    have := zn_k_inj (hb x hx).1 (hbe e he).1 hk
    have := hlt x hx e he
    omega
  have loop : ∀ m i J, m + i = es.length → zn_f1 p0 I J → J p0 3 = nI Lm → zn_P J p0 pr (zn_all (zn_k pr) Lm xs (ys.take i)) → zx_To l E (d + 2) 77 3 [some (.ref p0), some (.ref p1), some (.int (nI c2)), some (.int (nI c3)), some (.int (nI i))] [] (J, L, Y) (fun r M' => r = none ∧ Qv M') := by
    intro m
    induction m with
    | zero =>
      intro i J hi hJ j3 hPJ
      have ei : i = ys.length := by omega
      rw [ei, List.take_length] at hPJ
      have e2 : J p1 2 = nI es.length := by rw [hJ p1 2 (by omega)]; exact hP1.1
      refine sg_77_3 hY _ _ _ _ _ ⟨k1 _ _, fun _ => ⟨rfl, hq J hJ j3 hPJ⟩, fun h => absurd (by rw [e2]; exact nI_le (by omega) (by omega)) h⟩
    | succ m ih =>
      intro i J hi hJ j3 hPJ
      have hil : i < es.length := by omega
      have e2 : J p1 2 = nI es.length := by rw [hJ p1 2 (by omega)]; exact hP1.1
      obtain ⟨g1, g2⟩ := hP1.2 i hil
      obtain ⟨i1, i2, i3⟩ := zn_all_inv (κ := zn_k pr) (L := Lm) (ys.take i) xs hs (List.Pairwise.sublist (List.take_sublist _ _) hes) (fun x hx y hyy => kne x hx y (List.mem_of_mem_take hyy)) hlen
      have hei := gm i hil
      have yi : ys.getD i 0 = c3 + es.getD i 0 := hy i hil
      have bnd : ∀ z ∈ zn_all (zn_k pr) Lm xs (ys.take i), z < 16807 ∧ zn_c pr z < 2 ^ 30 := fun z hz => by
        rcases i3 z hz with q | q
        · exact hb z q
        · obtain ⟨e, he, rfl⟩ := ymem z (List.mem_of_mem_take q)
          exact hbe e he
      -- those taken already lie ahead
      have ris : ∀ z ∈ zn_all (zn_k pr) Lm xs (ys.take i), zn_c pr z = zn_c pr (c3 + es.getD i 0) → z < c3 + es.getD i 0 := fun z hz hcz => by
        rcases i3 z hz with q | q
        · exact hlt z q _ hei
        · obtain ⟨k, hk, e⟩ := List.getElem_of_mem q
          rw [List.length_take] at hk
          have hzk : ys.getD k 0 = z := by
            rw [← e, List.getElem_take, List.getD_eq_getElem?_getD, List.getElem?_eq_getElem (by omega)]; rfl
          have hkk : zn_k pr (ys.getD k 0) < zn_k pr (ys.getD i 0) := by
            rw [List.getD_eq_getElem?_getD, List.getElem?_eq_getElem (by omega), List.getD_eq_getElem?_getD, List.getElem?_eq_getElem (show i < ys.length by omega)]
            exact List.pairwise_iff_getElem.mp hes k i (by omega) (by omega) (by omega)
          rw [hzk, yi] at hkk
          unfold zn_k at hkk
          rw [hcz] at hkk
          omega
      have etk : ys.take (i + 1) = ys.take i ++ [c3 + es.getD i 0] := by
        rw [List.take_succ, List.getElem?_eq_getElem (show i < ys.length by omega)]
        congr 1
        rw [← yi, List.getD_eq_getElem?_getD, List.getElem?_eq_getElem (show i < ys.length by omega)]; rfl
      refine sg_77_3 hY _ _ _ _ _ ⟨k1 _ _, fun h => ?_, fun _ => ⟨k1 _ _, p1 + 1, k2, Or.inl (k4 _ _).1, ?_, k1 _ _, p1 + 2, k3, Or.inl (k4 _ _).2.1, ?_, hp0.1 _ _, ?_⟩⟩
      · rw [e2] at h
        exact absurd ((nI_leI (by omega) (by omega)).mp h) (by omega)
      · rw [(k4 _ _).2.2.1]; exact vp_in_nI (by omega) (by omega)
      · rw [(k4 _ _).2.2.2]; exact vp_in_nI (by omega) (by omega)
      · rw [nI_clamp (by omega), hJ (p1 + 1) i (by omega), hJ (p1 + 2) i (by omega), g1, g2, nI_add, nI_add, nI_1, ← hc _ hei, Nat.add_comm _ c3]
        refine zy_c76 hY hp0 hL i2 j3 hPJ i1 bnd (hbe _ hei) ris (fun J2 hf2 hP2 => ⟨hY, ih (i + 1) J2 (by omega) (fun a k hak => ?_) ?_ ?_⟩)
        · rw [hf2 a k (fun ⟨w, hw, w1, _⟩ => by
            simp only [List.mem_cons, List.not_mem_nil, or_false] at hw
            rcases hw with rfl | rfl | rfl <;> simp at w1 <;> omega)]
          exact hJ a k hak
        · rw [hf2 p0 3 (fun ⟨w, hw, w1, w2, w3⟩ => by
            simp only [List.mem_cons, List.not_mem_nil, or_false] at hw
            rcases hw with rfl | rfl | rfl <;> simp at w1 w2 w3 <;> omega)]
          exact j3
        · rw [etk, zn_all_app]; exact hP2
  exact sg_77_0 hY _ _ _ _ (loop es.length 0 I (by omega) (fun _ _ _ => rfl) h3 hP0)
theorem zy_c53 (hY : zx_lay Y) (hE : zn_E I Y n ap many q1 bs pr) {r : Nat} (hr : r ≤ n) (hq : Q (nI (zn_lm (n - ap) many r)) (I, L, Y)) : zx_Ci l E d 53 [.ref 76, .int (nI (n - r))] (I, L, Y) Q := by
  obtain ⟨⟨a1, a2, a3⟩, ⟨n1, n2, p1, p2, m1, m2⟩, -⟩ := hE
  refine sg_53_0 hY _ ?_
  rw [a2, a3, nI_ltI (by omega) (by omega)]
  unfold zn_lm at hq
  refine ⟨fun h => ⟨_, rfl, ?_⟩, fun h => ⟨_, rfl, ?_⟩⟩
  · rw [if_neg (by omega)] at hq; exact hq
  · rw [if_pos (by omega)] at hq; exact hq
theorem zy_c57 (hY : zx_lay Y) (hB : zn_B I bs) {s : Nat} (hs : s < 2 ^ 31) (hq : Q (if bs.contains s then 1 else 0) (I, L, Y)) : zx_Ci l E d 57 [.ref 76, .int (nI s)] (I, L, Y) Q := by
  obtain ⟨b1, b2, b3⟩ := hB
  have loop : ∀ m i, m + i = bs.length → (∀ k, k < i → bs.getD k 0 ≠ s) → zx_To l E d 57 2 [some (.ref 76), some (.int (nI s)), some (.int (nI i))] [] (I, L, Y) (fun r M' => ∃ v, r = some (.int v) ∧ Q v M') := by
    intro m
    induction m with
    | zero =>
      intro i hi hne
      have hno : bs.contains s = false := by
        cases hz : bs.contains s with
        | false => rfl
        | true =>
          have : s ∈ bs := by simpa using hz
          obtain ⟨k, hk, e⟩ := List.getElem_of_mem this
          refine absurd ?_ (hne k (by omega))
          rw [List.getD_eq_getElem?_getD, List.getElem?_eq_getElem hk, e]; rfl
      rw [hno] at hq
      exact sg_57_2 hY _ _ ⟨fun _ => ⟨_, rfl, hq⟩, fun h => absurd (by rw [b2]; exact nI_le (by omega) (by omega)) h⟩
    | succ m ih =>
      intro i hi hne
      obtain ⟨g1, g2⟩ := b3 i (by omega)
      refine sg_57_2 hY _ _ ⟨fun h => ?_, fun _ => ⟨vp_in_nI (by omega) (by omega), ?_⟩⟩
      · rw [b2] at h
        exact absurd ((nI_leI (by omega) (by omega)).mp h) (by omega)
      · rw [nI_clamp (by omega), g1, nI_eq (by omega) (by omega), nI_1]
        refine ⟨fun h => ih (i + 1) (by omega) (fun k hk => ?_), fun h => ⟨_, rfl, ?_⟩⟩
        · by_cases e : k = i
          · rw [e]; exact h
          · exact hne k (by omega)
        · have : bs.contains s = true := by
            have : s ∈ bs := by rw [← h, List.getD_eq_getElem?_getD, List.getElem?_eq_getElem (show i < bs.length by omega)]; exact List.getElem_mem _
            simpa using this
          rw [this] at hq; exact hq
  exact sg_57_0 hY _ (loop bs.length 0 (by omega) (fun k hk => by omega))
theorem zy_c58 (hY : zx_lay Y) (hB : zn_B I bs) {s : Nat} (hs : s < 2 ^ 31) (hq : Q (if zn_ld bs s then 1 else 0) (I, L, Y)) : zx_Ci l E (d + 1) 58 [.ref 76, .int (nI s)] (I, L, Y) Q := by
  obtain ⟨b1, b2, b3⟩ := hB
  have loop : ∀ m i, m + i = bs.length → (∀ k, k < i → zy_st (bs.getD k 0) s = false) → zx_To l E (d + 1) 58 2 [some (.ref 76), some (.int (nI s)), some (.int (nI i))] [] (I, L, Y) (fun r M' => ∃ v, r = some (.int v) ∧ Q v M') := by
    intro m
    induction m with
    | zero =>
      intro i hi hne
      have hno : zn_ld bs s = false := by
        cases hz : zn_ld bs s with
        | false => rfl
        | true =>
          unfold zn_ld at hz
          obtain ⟨b, hb, e⟩ := List.any_eq_true.mp hz
          obtain ⟨k, hk, rfl⟩ := List.getElem_of_mem hb
          have := hne k (by omega)
          rw [List.getD_eq_getElem?_getD, List.getElem?_eq_getElem hk] at this
          rw [show (some bs[k]).getD 0 = bs[k] from rfl, e] at this; cases this
      rw [hno] at hq
      exact sg_58_2 hY _ _ ⟨fun _ => ⟨_, rfl, hq⟩, fun h => absurd (by rw [b2]; exact nI_le (by omega) (by omega)) h⟩
    | succ m ih =>
      intro i hi hne
      obtain ⟨g1, g2⟩ := b3 i (by omega)
      refine sg_58_2 hY _ _ ⟨fun h => ?_, fun _ => ⟨vp_in_nI (by omega) (by omega), ?_⟩⟩
      · rw [b2] at h
        exact absurd ((nI_leI (by omega) (by omega)).mp h) (by omega)
      · rw [nI_clamp (by omega), g1, nI_1]
        refine zy_162 hY g2 hs ⟨hY, fun h => ?_, fun h => ⟨_, rfl, ?_⟩⟩
        · rw [zy_b0] at h
          refine ih (i + 1) (by omega) (fun k hk => ?_)
          by_cases e : k = i
          · rw [e]; exact h
          · exact hne k (by omega)
        · rw [zy_b1] at h
          have : zn_ld bs s = true := by
            unfold zn_ld; rw [List.any_eq_true]
            refine ⟨bs.getD i 0, ?_, h⟩
            rw [List.getD_eq_getElem?_getD, List.getElem?_eq_getElem (show i < bs.length by omega)]; exact List.getElem_mem _
          rw [this] at hq; exact hq
  exact sg_58_0 hY _ (loop bs.length 0 (by omega) (fun k hk => by omega))
/-- one letter ahead of all ends of a list -/
theorem zy_c54 (hY : zx_lay Y) (hE : zn_E I Y n ap many q1 bs pr) {p0 p1 Lm r j : Nat} {xs es : List Nat} (hp0 : zn_cell Y p0) (hp1 : zn_cell Y p1) (hne : p0 + 3 ≤ p1 ∨ p1 + 3 ≤ p0) (hL : Lm ≤ 6) (hr : r + 1 ≤ n) (hj : j + 1 ≤ 6) (hlen : xs.length ≤ Lm) (hes6 : es.length ≤ 6) (h3 : I p0 3 = nI Lm) (hP0 : zn_P I p0 pr xs) (hP1 : zn_P I p1 pr es)
    (hs : xs.Pairwise (fun a b => zn_k pr a < zn_k pr b)) (hes : es.Pairwise (fun a b => zn_k pr a < zn_k pr b)) (hed : ∀ e ∈ es, zn_d r e) (hxd : ∀ x ∈ xs, ∃ u e1, 1 ≤ u ∧ u ≤ j ∧ zn_d r e1 ∧ x = u * 7 ^ r + e1)
    (hq : ∀ J, zn_f1 p0 I J → J p0 3 = nI Lm → zn_P J p0 pr (zn_all (zn_k pr) Lm xs (es.map (fun e => (j + 1) * 7 ^ r + e))) → Qv (J, L, Y)) : zx_Cv l E (d + 3) 54 [.ref 76, .ref p0, .ref p1, .int (nI (j + 1)), .int (nI (n - (r + 1)))] (I, L, Y) Qv := by
  obtain ⟨⟨a1, a2, a3⟩, ⟨n1, n2, p1', p2, m1, m2⟩, -, ⟨c1, c2, c3⟩, e1⟩ := id hE
  have hpr : ∀ x, 1 ≤ x → x ≤ 6 → pr x ≤ 9 := fun x h1 h2 => (c3 x h1 h2).2
  obtain ⟨g1, g2⟩ := c3 (j + 1) (by omega) hj
  have hp5 : 7 ^ (r + 1) ≤ 16807 := zn_pow5 (by omega)
  rw [Nat.pow_succ] at hp5
  have mj : (j + 1) * 7 ^ r ≤ 6 * 7 ^ r := Nat.mul_le_mul_right _ hj
  have hbe : ∀ e ∈ es, (j + 1) * 7 ^ r + e < 16807 ∧ zn_c pr ((j + 1) * 7 ^ r + e) < 2 ^ 30 := fun e he => by
    have := zn_d_lt (hed e he)
    have hc := zn_c_le hpr (r + 1) _ (zn_cons (pr := pr) (by omega) hj r e (hed e he)).1
    exact ⟨by omega, by omega⟩
  have hb : ∀ x ∈ xs, x < 16807 ∧ zn_c pr x < 2 ^ 30 := fun x hx => by
    obtain ⟨u, e1, u1, u2, u3, rfl⟩ := hxd x hx
    have := zn_d_lt u3
    have hc := zn_c_le hpr (r + 1) _ (zn_cons (pr := pr) u1 (by omega) r e1 u3).1
    have : u * 7 ^ r ≤ 6 * 7 ^ r := Nat.mul_le_mul_right _ (by omega)
    exact ⟨by omega, by omega⟩
  have hlt : ∀ x ∈ xs, ∀ e ∈ es, x < (j + 1) * 7 ^ r + e := fun x hx e he => by
    obtain ⟨u, e1, u1, u2, u3, rfl⟩ := hxd x hx
    have := zn_d_lt u3
    have : u * 7 ^ r ≤ j * 7 ^ r := Nat.mul_le_mul_right _ u2
    rw [Nat.add_mul]
    omega
  have hsh : (es.map (fun e => (j + 1) * 7 ^ r + e)).Pairwise (fun a b => zn_k pr a < zn_k pr b) := by
    rw [List.pairwise_map]
    refine List.Pairwise.imp_of_mem ?_ hes
    intro u v hu hv huv
    rw [zn_k_sh (by omega) hj (hed u hu), zn_k_sh (by omega) hj (hed v hv)]; omega
  have hia : ∀ I L, zx_is (I, L, Y) q1 20 ∧ zx_ln (I, L, Y) q1 = 6 := fun I L => by
    rcases c2 with rfl | rfl
    · exact ⟨zx_lis hY 11 20 rfl rfl, zx_lln hY 11 6 rfl rfl⟩
    · exact ⟨zx_lis hY 78 20 rfl rfl, zx_lln hY 78 6 rfl rfl⟩
  have ex : nI (j + 1) - 1 = nI j := nI_pred j
  have er : nI n - nI (n - (r + 1)) - 1 = nI r := by rw [pk_sub (by omega), show n - (n - (r + 1)) = r + 1 by omega, nI_pred]
  refine sg_54_0 hY _ _ _ _ ⟨q1, c1, Or.inl (hia _ _).1, ?_, ?_, hp0.1 _ _, ?_⟩
  · rw [(hia _ _).2, ex]; exact vp_in_nI (by omega) (by omega)
  · rw [a1, er]; exact vp_in_nI (by omega) (by omega)
  · rw [ex, a1, er, nI_clamp (by omega), nI_clamp (by omega), (e1 r (by omega)).1, pk_mul]
    have g1 : I q1 j = nI (pr (j + 1)) := g1
    rw [g1]
    exact zy_c77 hY hp0 hp1 hne hL hlen hes6 h3 hP0 hP1 hs hsh (fun e he => by rw [(zn_cons (pr := pr) (by omega) hj r e (hed e he)).2]; omega) hb hbe hlt (fun J k1 k2 k3 => ⟨hY, rfl, hq J k1 k2 k3⟩)
theorem zn_lm_6 {q r : Nat} (m2 : many ≤ 6) : zn_lm q many r ≤ 6 := by unfold zn_lm; split <;> omega
/-- all lists of ends of any names -/
def zn_A (I : Nat → Nat → Int32) (n q many : Nat) (pr : Nat → Nat) (D : Nat) : Prop := ∀ i, D ≤ i → i ≤ n → zn_P I (81 + 6 * i) pr (zn_any pr q many (n - i))
theorem zy_c55 (hY : zx_lay Y) : ∀ (r s d : Nat) (I : Nat → Nat → Int32) (Qv : zx_M → Prop), r ≤ n → zn_E I Y n ap many q1 bs pr → zn_A I n (n - ap) many pr 0 → zn_ok bs s → s < 7 ^ (n - r) →
    (∀ J, zn_fh (n - r) I J → zn_P J (84 + 6 * (n - r)) pr (zn_pk pr (n - ap) many bs r s) → Qv (J, L, Y)) → zx_Cv l E (d + r + 4) 55 [.ref 76, .int (nI s), .int (nI (n - r))] (I, L, Y) Qv := by
  intro r
  induction r with
  | zero =>
    intro s d I Qv hr hE hA hok hs hq
    obtain ⟨⟨a1, a2, a3⟩, ⟨n1, n2, p1, p2, m1, m2⟩, ⟨b1, b2, b3⟩, ⟨c1, c2, c3⟩, e1⟩ := id hE
    have hpr : ∀ x, 1 ≤ x → x ≤ 6 → pr x ≤ 9 := fun x h1 h2 => (c3 x h1 h2).2
    have hs5 : s < 2 ^ 31 := by have := zn_pow5 (show n - 0 ≤ 5 by omega); omega
    have hlm := zn_lm_6 (q := n - ap) (r := 0) m2
    have hv := vp_in_nI (n := n - 0) (N := 6) (by omega) (by omega)
    obtain ⟨rf1, rf2⟩ := zn_rf hY (i := n - 0) (by omega)
    have hcell := zn_he hY (i := n - 0) (by omega)
    have hcella := zn_an hY (i := n - 0) (by omega)
    refine sg_55_0 hY _ _ ⟨hv, 84 + 6 * (n - 0), by rw [nI_clamp (by omega)]; exact rf2, zy_c53 hY hE (r := 0) hr ⟨hY, hcell.1 _ _, zy_c75 hY hcell hlm (fun J hJ j2 j3 => ⟨hY, ?_⟩)⟩⟩
    have f78 : ∀ a k, a ≤ 78 → J a k = I a k := fun a k ha => hJ a k (fun ⟨w, hw, w1, _⟩ => by rw [List.mem_singleton] at hw; subst hw; simp at w1; omega)
    have fh : zn_fh (n - 0) I J := fun a k hk => hJ a k (fun ⟨w, hw, w1, _⟩ => by
      rw [List.mem_singleton] at hw; subst hw
      exact hk (n - 0) (Nat.le_refl _) (by omega) ⟨by simp at w1; omega, by simp at w1; omega⟩)
    have hEJ := zn_E_cong hE f78
    rw [zn_pk] at hq
    refine zy_c57 hY hEJ.2.2.1 hs5 ⟨hY, fun h => ⟨fun h2 => ?_, fun h2 => absurd (by dsimp only; rw [hEJ.1.1]; exact nI_le (by omega) (by omega)) h2⟩, fun h => ⟨rfl, ?_⟩⟩
    · rw [zy_b0] at h
      rw [h, if_neg (by decide)] at hq
      refine ⟨hv, 81 + 6 * (n - 0), by rw [nI_clamp (by omega)]; exact rf1, hcell.1 _ _, ?_⟩
      have hPa : zn_P J (81 + 6 * (n - 0)) pr (zn_any pr (n - ap) many (n - (n - 0))) := zn_P_cong (hA (n - 0) (by omega) (by omega)) (by rw [show n - (n - 0) = 0 by omega, zn_any]; simp) (fun a k hk => hJ a k (fun ⟨w, hw, w1, _⟩ => by
        rw [List.mem_singleton] at hw; subst hw
        obtain ⟨z, hz, z1, _⟩ := hk
        simp only [List.mem_cons, List.not_mem_nil, or_false] at hz
        rcases hz with rfl | rfl | rfl <;> simp at z1 w1 <;> omega))
      rw [show n - (n - 0) = 0 by omega] at hPa
      have hany := zn_any_ok (pr := pr) (q := n - ap) m1 0 (by omega)
      have em : (zn_any pr (n - ap) many 0).map (fun e => 0 + e) = zn_any pr (n - ap) many 0 := by simp
      have d0 : ∀ e ∈ zn_any pr (n - ap) many 0, zn_d 0 e := fun e he => (hany.2.2.1 e he).1
      refine zy_c77 (I := J) (L := L) (c2 := 0) (c3 := 0) (xs := []) hY hcell hcella (by omega) hlm (Nat.zero_le _) (Nat.le_trans hany.2.1 hlm) j3 ⟨by rw [j2]; rfl, fun j hj => (by simp at hj)⟩ hPa List.Pairwise.nil (by rw [em]; exact hany.1) (fun e he => by rw [Nat.zero_add]; rfl) (fun x hx => (by cases hx)) (fun e he => by rw [Nat.zero_add, zn_d_0.mp (d0 e he), zn_c_0]; decide) (fun x hx => (by cases hx)) (fun J2 hJ2 _ hP2 => ⟨hY, rfl, hq J2 (fun a k hk => ?_) ?_⟩)
      · rw [hJ2 a k (fun z => hk (n - 0) (Nat.le_refl _) (by omega) ⟨z.1, by omega⟩)]; exact fh a k hk
      · rw [em] at hP2; exact hP2
    · rw [zy_b1] at h
      rw [h, if_pos rfl] at hq
      exact hq J fh ⟨by rw [j2]; rfl, fun j hj => (by simp at hj)⟩
  | succ r ih =>
    intro s d I Qv hr hE hA hok hs hq
    obtain ⟨⟨a1, a2, a3⟩, ⟨n1, n2, p1, p2, m1, m2⟩, ⟨b1, b2, b3⟩, ⟨c1, c2, c3⟩, e1⟩ := id hE
    have hpr : ∀ x, 1 ≤ x → x ≤ 6 → pr x ≤ 9 := fun x h1 h2 => (c3 x h1 h2).2
    have hs5 : s < 2 ^ 31 := by have := zn_pow5 (show n - (r + 1) ≤ 5 by omega); omega
    have hlm := zn_lm_6 (q := n - ap) (r := r + 1) m2
    have hv := vp_in_nI (n := n - (r + 1)) (N := 6) (by omega) (by omega)
    obtain ⟨rf1, rf2⟩ := zn_rf hY (i := n - (r + 1)) (by omega)
    have hcell := zn_he hY (i := n - (r + 1)) (by omega)
    have hcella := zn_an hY (i := n - (r + 1)) (by omega)
    refine sg_55_0 hY _ _ ⟨hv, 84 + 6 * (n - (r + 1)), by rw [nI_clamp (by omega)]; exact rf2, zy_c53 hY hE (r := r + 1) hr ⟨hY, hcell.1 _ _, zy_c75 hY hcell hlm (fun J hJ j2 j3 => ⟨hY, ?_⟩)⟩⟩
    have f78 : ∀ a k, a ≤ 78 → J a k = I a k := fun a k ha => hJ a k (fun ⟨w, hw, w1, _⟩ => by rw [List.mem_singleton] at hw; subst hw; simp at w1; omega)
    have fh : zn_fh (n - (r + 1)) I J := fun a k hk => hJ a k (fun ⟨w, hw, w1, _⟩ => by
      rw [List.mem_singleton] at hw; subst hw
      exact hk (n - (r + 1)) (Nat.le_refl _) (by omega) ⟨by simp at w1; omega, by simp at w1; omega⟩)
    have hEJ := zn_E_cong hE f78
    have anyfr : ∀ J2, zn_fh (n - (r + 1)) I J2 → zn_A J2 n (n - ap) many pr 0 := fun J2 h2 i hi1 hi2 => by
      have hany := zn_any_ok (pr := pr) (q := n - ap) m1 (n - i) (by omega)
      refine zn_P_cong (hA i hi1 hi2) (Nat.le_trans hany.2.1 (zn_lm_6 m2)) (fun a k hk => h2 a k (fun i' _ _ q => ?_))
      obtain ⟨z, hz, z1, _⟩ := hk
      simp only [List.mem_cons, List.not_mem_nil, or_false] at hz
      rcases hz with rfl | rfl | rfl <;> simp at z1 <;> omega
    rw [zn_pk] at hq
    -- any ends
    have plain : (bs.contains s = false) → (zn_ld bs s = false) → zx_Cv l E (d + (r + 1) + 3) 77 [.ref (84 + 6 * (n - (r + 1))), .ref (81 + 6 * (n - (r + 1))), .int 0, .int 0] (J, L, Y) (fun M => zx_lay M.2.2 ∧ (none : Option Value) = none ∧ Qv (M.1, M.2.1, M.2.2)) := fun hb hl => by
      rw [hb, if_neg (by decide), hl, if_neg (by decide)] at hq
      have hPa := anyfr J fh (n - (r + 1)) (by omega) (by omega)
      rw [show n - (n - (r + 1)) = r + 1 by omega] at hPa
      have hany := zn_any_ok (pr := pr) (q := n - ap) m1 (r + 1) (by omega)
      have em : (zn_any pr (n - ap) many (r + 1)).map (fun e => 0 + e) = zn_any pr (n - ap) many (r + 1) := by simp
      have d0 : ∀ e ∈ zn_any pr (n - ap) many (r + 1), zn_d (r + 1) e := fun e he => (hany.2.2.1 e he).1
      rw [show d + (r + 1) + 3 = d + (r + 1) + 1 + 2 by omega]
      refine zy_c77 (I := J) (L := L) (c2 := 0) (c3 := 0) (xs := []) hY hcell hcella (by omega) hlm (Nat.zero_le _) (Nat.le_trans hany.2.1 hlm) j3 ⟨by rw [j2]; rfl, fun j hj => (by simp at hj)⟩ hPa List.Pairwise.nil (by rw [em]; exact hany.1) (fun e he => by rw [Nat.zero_add]; rfl) (fun x hx => (by cases hx)) (fun e he => ?_) (fun x hx => (by cases hx)) (fun J2 hJ2 _ hP2 => ⟨hY, rfl, hq J2 (fun a k hk => ?_) ?_⟩)
      · rw [Nat.zero_add]
        have := zn_c_le hpr (r + 1) e (d0 e he)
        have := zn_d_lt (d0 e he)
        have := zn_pow5 (show r + 1 ≤ 5 by omega)
        exact ⟨by omega, by omega⟩
      · rw [hJ2 a k (fun z => hk (n - (r + 1)) (Nat.le_refl _) (by omega) ⟨z.1, by omega⟩)]; exact fh a k hk
      · rw [em] at hP2; exact hP2
    refine zy_c57 hY hEJ.2.2.1 hs5 ⟨hY, fun h => ⟨fun h2 => ?_, fun _ => zy_c58 hY hEJ.2.2.1 hs5 ⟨hY, fun h2 => ?_, fun h2 => ⟨hv, 81 + 6 * (n - (r + 1)), by rw [nI_clamp (by omega)]; exact rf1, hcell.1 _ _, ?_⟩⟩⟩, fun h => ⟨rfl, ?_⟩⟩
    · dsimp only at h2
      rw [hEJ.1.1] at h2
      exact absurd ((nI_leI (by omega) (by omega)).mp h2) (by omega)
    · rw [zy_b0] at h
      rw [zy_b1] at h2
      rw [h, if_neg (by decide), h2, if_pos rfl] at hq
      have hch : ∀ x, 1 ≤ x → x ≤ 6 → (zn_pk pr (n - ap) many bs r (s * 7 + x)).Pairwise (fun a b => zn_k pr a < zn_k pr b) ∧ ∀ e ∈ zn_pk pr (n - ap) many bs r (s * 7 + x), zn_d r e := fun x x1 x2 => by
        have := zn_pk_ok (pr := pr) (q := n - ap) (bs := bs) m1 r (s * 7 + x) (by omega) (zn_ok_s hok h x1 x2)
        exact ⟨this.1, fun e he => (this.2.2.1 e he).1.1⟩
      have hs7 : s * 7 + 6 < 7 ^ (n - r) := by
        rw [show n - r = n - (r + 1) + 1 by omega, Nat.pow_succ]; omega
      have hs75 := zn_pow5 (show n - r ≤ 5 by omega)
      have loop : ∀ m j J2, m + j = 6 → zn_fh (n - (r + 1)) I J2 → J2 (84 + 6 * (n - (r + 1))) 3 = nI (zn_lm (n - ap) many (r + 1)) → zn_P J2 (84 + 6 * (n - (r + 1))) pr (zn_st pr (zn_lm (n - ap) many (r + 1)) r (fun x => zn_pk pr (n - ap) many bs r (s * 7 + x)) j) → zx_To l E (d + (r + 1) + 4) 55 57 [some (.ref 76), some (.int (nI s)), some (.int (nI (n - (r + 1)))), some (.ref (84 + 6 * (n - (r + 1)))), some (.int (nI (j + 1)))] [] (J2, L, Y) (fun r M' => r = none ∧ Qv M') := by
        intro m
        induction m with
        | zero =>
          intro j J2 hj hf2 h23 hP2
          have ej : j = 6 := by omega
          subst ej
          exact sg_55_57 hY _ _ _ _ ⟨fun _ => ⟨rfl, hq J2 hf2 hP2⟩, fun h => absurd (by decide) h⟩
        | succ m ihm =>
          intro j J2 hj hf2 h23 hP2
          obtain ⟨t1, t2, t3⟩ := zn_st_inv (pr := pr) (L := zn_lm (n - ap) many (r + 1)) (r := r) (by omega) hch j (by omega)
          have f782 : ∀ a k, a ≤ 78 → J2 a k = I a k := fun a k ha => hf2 a k (fun i _ _ q => by omega)
          have hE2 := zn_E_cong hE f782
          obtain ⟨c1', c2'⟩ := hch (j + 1) (by omega) (by omega)
          have ctop := zn_pk_ok (pr := pr) (q := n - ap) (bs := bs) m1 r (s * 7 + (j + 1)) (by omega) (zn_ok_s hok h (by omega) (by omega))
          refine sg_55_57 hY _ _ _ _ ⟨fun h => absurd ((nI_ltI (a := 6) (by omega) (by omega)).mp h) (by omega), fun _ => ?_⟩
          rw [show (7 : Int32) = nI 7 by decide, pk_mul, nI_add, nI_1, show n - (r + 1) + 1 = n - r by omega, show d + (r + 1) + 3 = d + r + 4 by omega]
          refine ih (s * 7 + (j + 1)) d J2 _ (by omega) hE2 (anyfr J2 hf2) (zn_ok_s hok h (by omega) (by omega)) (by omega) (fun J3 hf3 hP3 => ⟨hY, ?_⟩)
          have hE3 := zn_E_cong hE2 (fun a k ha => hf3 a k (fun i _ _ q => by omega))
          obtain ⟨-, rf3⟩ := zn_rf hY (i := n - r) (by omega)
          refine ⟨vp_in_nI (by omega) (by omega), 84 + 6 * (n - r), by rw [nI_clamp (by omega)]; exact rf3, ?_⟩
          have hP23 : zn_P J3 (84 + 6 * (n - (r + 1))) pr (zn_st pr (zn_lm (n - ap) many (r + 1)) r (fun x => zn_pk pr (n - ap) many bs r (s * 7 + x)) j) := zn_P_cong hP2 (Nat.le_trans t2 hlm) (fun a k hk => hf3 a k (fun i i1 _ q => by
            obtain ⟨z, hz, z1, _⟩ := hk
            simp only [List.mem_cons, List.not_mem_nil, or_false] at hz
            rcases hz with rfl | rfl | rfl <;> simp at z1 <;> omega))
          have h33 : J3 (84 + 6 * (n - (r + 1))) 3 = nI (zn_lm (n - ap) many (r + 1)) := by rw [hf3 _ _ (fun i i1 _ q => by omega)]; exact h23
          rw [show d + r + 4 = d + r + 1 + 3 by omega]
          refine zy_c54 hY hE3 hcell (zn_he hY (i := n - r) (by omega)) (by omega) hlm (by omega) (by omega) t2 (Nat.le_trans ctop.2.1 (zn_lm_6 m2)) h33 hP23 hP3 t1 c1' c2' t3 (fun J4 hf4 h43 hP4 => ⟨hY, ?_⟩)
          rw [nI_1]
          refine ihm (j + 1) J4 (by omega) (fun a k hk => ?_) h43 ?_
          · rw [hf4 a k (fun z => hk (n - (r + 1)) (Nat.le_refl _) (by omega) ⟨z.1, by omega⟩), hf3 a k (fun i i1 i2 => hk i (by omega) i2)]
            exact hf2 a k hk
          · rw [zn_st]; exact hP4
      exact loop 6 0 J rfl fh j3 ⟨by rw [j2]; rfl, fun j hj => (by simp [zn_st] at hj)⟩
    · rw [zy_b0] at h h2
      exact plain h h2
    · rw [zy_b1] at h
      rw [h, if_pos rfl] at hq
      exact hq J fh ⟨by rw [j2]; rfl, fun j hj => (by simp at hj)⟩
end YCh
