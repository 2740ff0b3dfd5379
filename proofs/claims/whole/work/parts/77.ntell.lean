/-! ===== new names: the class tells; the reference looks through all ===== -/
def zn_sum (pr : Nat → Nat) (xs : List Nat) : Nat := (xs.map (zn_c pr)).sum
theorem zn_sum_app {pr : Nat → Nat} {xs : List Nat} {x : Nat} : zn_sum pr (xs ++ [x]) = zn_sum pr xs + zn_c pr x := by unfold zn_sum; rw [List.map_append, List.sum_append]; simp
theorem zn_take_s {xs : List Nat} {i : Nat} (h : i < xs.length) : xs.take (i + 1) = xs.take i ++ [xs.getD i 0] := by
  rw [List.take_succ, List.getElem?_eq_getElem h]
  congr 1
  rw [List.getD_eq_getElem?_getD, List.getElem?_eq_getElem h]; rfl
theorem zo_bst_cong {g h : Nat → Bool} {f : Nat → Nat} {last : Nat} : ∀ p, (∀ i, i < p → g i = h i) → zo_bst g f last p = zo_bst h f last p
  | 0, _ => rfl
  | p + 1, hh => by rw [zo_bst, zo_bst, hh p (by omega), zo_bst_cong p (fun i hi => hh i (by omega))]
/-- codes, rising -/
def zn_rs (xs : List Nat) : List Nat := zo_lst (fun i => xs.getD i 0) 0 xs.length
theorem zn_rs_ok {xs : List Nat} (h0 : ∀ x ∈ xs, x ≠ 0) (hnd : xs.Nodup) : (zn_rs xs).length = xs.length ∧ ∀ m, m ≤ xs.length → zo_bst (fun _ => true) (fun i => xs.getD i 0) (zo_last (zn_rs xs) m) xs.length = if m < xs.length then some ((zn_rs xs).getD m 0) else none := by
  have gm : ∀ k, k < xs.length → xs.getD k 0 ∈ xs := fun k hk => by rw [List.getD_eq_getElem?_getD, List.getElem?_eq_getElem hk]; exact List.getElem_mem _
  have bg : ∀ i, i < xs.length → zy_bg (fun i => xs.getD i 0) 0 i = true := fun i hi => by
    have e : zy_bg (fun i => xs.getD i 0) 0 i = (decide (xs.getD i 0 ≠ 0) && zy_st (xs.getD i 0) 0) := rfl
    rw [e, decide_eq_true (h0 _ (gm i hi)), Bool.true_and]
    unfold zy_st
    rw [zy_len_0, decide_eq_true_eq]
    unfold zy_pf
    rw [Nat.sub_zero]
    exact Nat.div_eq_of_lt ((zy_len_lt _ _).mp (Nat.le_refl _))
  obtain ⟨k1, k2, k3⟩ := zo_lst_ok (f := fun i => xs.getD i 0) (s := 0) xs.length
  have mem : ∀ y, y ∈ zn_rs xs ↔ y ∈ xs := fun y => by
    unfold zn_rs
    rw [k3]
    constructor
    · rintro ⟨p, a, b, rfl⟩; exact gm p a
    · intro h
      obtain ⟨k, hk, e⟩ := List.getElem_of_mem h
      exact ⟨k, hk, bg k hk, by show xs.getD k 0 = y; rw [List.getD_eq_getElem?_getD, List.getElem?_eq_getElem hk, e]; rfl⟩
  have hl : (zn_rs xs).length = xs.length := Nat.le_antisymm k2 (List.Nodup.length_le_of_subset hnd (fun y hy => (mem y).mpr hy))
  refine ⟨hl, fun m hm => ?_⟩
  have := zo_bst_lst (f := fun i => xs.getD i 0) (s := 0) (P := xs.length) (m := m) (by unfold zn_rs at hl; omega)
  rw [zo_bst_cong xs.length (fun i hi => (bg i hi).symm)]
  unfold zn_rs at hl ⊢
  rw [this, hl]
theorem zn_pc_n {g : Nat → Int32} {pr : Nat → Nat} (hg : ∀ x, 1 ≤ x → x ≤ 6 → g (x - 1) = nI (pr x)) : ∀ n c a, c < 7 ^ n → zy_dig c = true → zy_pcf g n c (nI a) = nI (a + zn_c pr c)
  | 0, c, a, h, _ => by
    rw [Nat.pow_zero] at h
    rw [zy_pcf, show c = 0 by omega, zn_c_0, Nat.add_zero]
  | n + 1, c, a, h, hd => by
    rw [zy_pcf]
    by_cases h0 : c = 0
    · rw [if_pos h0, h0, zn_c_0, Nat.add_zero]
    · rw [if_neg h0]
      rw [zy_dig_s h0, Bool.and_eq_true, decide_eq_true_eq] at hd
      rw [Nat.pow_succ] at h
      rw [hg (c % 7) (by omega) (by omega), nI_add, zn_pc_n hg n (c / 7) _ (by omega) hd.2, zn_c_s h0, Nat.add_assoc]
section YTe
variable {l : Launch} {E : zx_E} {d : Nat} {I : Nat → Nat → Int32} {L : Nat → Nat → Int64} {Y : zx_Y} {Qo : Option Value → zx_M → Prop} {Q : Int32 → zx_M → Prop} {Qv : zx_M → Prop} {pr : Nat → Nat} {n ap many q1 : Nat} {bs : List Nat}
theorem zy_c78 (hY : zx_lay Y) {xs : List Nat} (h6 : xs.length ≤ 6) (hP : zn_P I 84 pr xs) (hq : Q (nI (zn_sum pr xs)) (I, L, Y)) : zx_Ci l E d 78 [.ref 84] (I, L, Y) Q := by
  obtain ⟨c1, c2, c3, c4⟩ := zn_he hY (i := 0) (by omega)
  have loop : ∀ m i, m + i = xs.length → zx_To l E d 78 4 [some (.ref 84), some (.int (nI (zn_sum pr (xs.take i)))), some (.int (nI i))] [] (I, L, Y) (fun r M' => ∃ v, r = some (.int v) ∧ Q v M') := by
    intro m
    induction m with
    | zero =>
      intro i hi
      have ei : i = xs.length := by omega
      subst ei
      rw [List.take_length]
      exact sg_78_4 hY _ _ _ ⟨c1 _ _, fun _ => ⟨_, rfl, hq⟩, fun h => absurd (by rw [hP.1]; exact nI_le (Nat.le_refl _) (by omega)) h⟩
    | succ m ih =>
      intro i hi
      refine sg_78_4 hY _ _ _ ⟨c1 _ _, fun h => ?_, fun _ => ⟨c1 _ _, 85, c2, Or.inl (c4 _ _).1, ?_, ?_⟩⟩
      · rw [hP.1] at h
        exact absurd ((nI_leI (by omega) (by omega)).mp h) (by omega)
      · rw [(c4 _ _).2.2.1]; exact vp_in_nI (by omega) (by omega)
      · rw [nI_clamp (by omega), (hP.2 i (by omega)).1, nI_add, nI_1, ← zn_sum_app, ← zn_take_s (by omega)]
        exact ih (i + 1) (by omega)
  exact sg_78_0 hY _ (loop xs.length 0 (by omega))
theorem zy_c79 (hY : zx_lay Y) {xs : List Nat} (h6 : xs.length ≤ 6) (hP : zn_P I 84 pr xs) (hx : ∀ x ∈ xs, x ≠ 0 ∧ x < 16807) (hnd : xs.Nodup) (hq : Qv (zy_tell I ((zn_rs xs).map nI), L, Y)) : zx_Cv l E (d + 1) 79 [.ref 84, .ref 6] (I, L, Y) Qv := by
  obtain ⟨c1, c2, c3, c4⟩ := zn_he hY (i := 0) (by omega)
  obtain ⟨r1, r2⟩ := zn_rs_ok (fun x hx' => (hx x hx').1) hnd
  have gm : ∀ k, k < xs.length → xs.getD k 0 ∈ xs := fun k hk => by rw [List.getD_eq_getElem?_getD, List.getElem?_eq_getElem hk]; exact List.getElem_mem _
  have e2 : ∀ vs, zy_tell I vs 84 2 = nI xs.length := fun vs => by rw [zy_tell_el (by omega)]; exact hP.1
  have e86 : ∀ vs k, k < xs.length → zy_tell I vs 86 k = nI (xs.getD k 0) := fun vs k hk => by rw [zy_tell_el (by omega)]; exact (hP.2 k hk).2
  have bstlt : ∀ last p v, p ≤ xs.length → zo_bst (fun _ => true) (fun i => xs.getD i 0) last p = some v → v < 16807 := fun last p v hp hz => by
    have ok := zo_bst_ok (g := fun _ => true) (f := fun i => xs.getD i 0) (last := last) p
    rw [hz] at ok
    obtain ⟨⟨q, a1, -, a3⟩, -⟩ := ok
    rw [← a3]; exact (hx _ (gm q (by omega))).2
  have lastlt : ∀ m, m ≤ xs.length → zo_last (zn_rs xs) m < 16807 := fun m hm => by
    unfold zo_last
    split
    · omega
    · have := r2 (m - 1) (by omega)
      rw [if_pos (by omega)] at this
      exact bstlt _ _ _ (Nat.le_refl _) this
  have inner : ∀ (vs : List Int32) (m : Nat), m < xs.length → (∀ v, v = (zn_rs xs).getD m 0 → zx_Cv l E d 82 [.ref 6, .int (nI v)] (zy_tell I vs, L, Y) (fun M1 => zx_lay M1.2.2 ∧ zx_To l E (d + 1) 79 8 [some (.ref 84), some (.ref 6), some (.int (nI v)), some (.int (nI m + 1)), none, none] [] (M1.1, M1.2.1, M1.2.2) (fun r M' => r = none ∧ Qv M'))) →
      ∀ t i, t + i = xs.length → zx_To l E (d + 1) 79 23 [some (.ref 84), some (.ref 6), some (.int (nI (zo_last (zn_rs xs) m))), some (.int (nI m)), some (.int (nI ((zo_bst (fun _ => true) (fun i => xs.getD i 0) (zo_last (zn_rs xs) m) i).getD 5764801))), some (.int (nI i))] [] (zy_tell I vs, L, Y) (fun r M' => r = none ∧ Qv M') := by
    intro vs m hm hend t
    have hll := lastlt m (by omega)
    induction t with
    | zero =>
      intro i hi
      have ei : i = xs.length := by omega
      subst ei
      rw [r2 m (by omega), if_pos hm]
      exact sg_79_23 hY _ _ _ _ _ ⟨c1 _ _, fun _ => hend _ rfl, fun h => absurd (by rw [e2]; exact nI_le (Nat.le_refl _) (by omega)) h⟩
    | succ t ih =>
      intro i hi
      have hil : i < xs.length := by omega
      have hxi := hx _ (gm i hil)
      have next := ih (i + 1) (by omega)
      rw [zo_bst, Bool.true_and] at next
      have hvi : vp_in (nI i) (zx_ln (zy_tell I vs, L, Y) 86) := by rw [(c4 _ _).2.2.2]; exact vp_in_nI (by omega) (by omega)
      refine sg_79_23 hY _ _ _ _ _ ⟨c1 _ _, fun h => ?_, fun _ => ⟨c1 _ _, 86, c3, Or.inl (c4 _ _).2.1, hvi, ?_⟩⟩
      · rw [e2] at h
        exact absurd ((nI_leI (by omega) (by omega)).mp h) (by omega)
      · rw [nI_clamp (by omega), e86 vs i hil, nI_leI (by omega) (by omega), nI_1]
        refine ⟨fun h => ?_, fun h => ⟨c1 _ _, 86, c3, Or.inl (c4 _ _).2.1, hvi, ?_⟩⟩
        · rw [decide_eq_false (by omega), Bool.false_and, if_neg (by decide)] at next
          exact next
        · rw [decide_eq_true (by omega), Bool.true_and] at next
          rw [e86 vs i hil]
          cases hz : zo_bst (fun _ => true) (fun i => xs.getD i 0) (zo_last (zn_rs xs) m) i with
          | none =>
            rw [hz] at next
            dsimp only at next
            rw [if_pos rfl] at next
            show ((nI 5764801 ≤ nI (xs.getD i 0) → _) ∧ (¬ nI 5764801 ≤ nI (xs.getD i 0) → _))
            rw [nI_leI (by omega) (by omega)]
            exact ⟨fun h => by omega, fun _ => ⟨c1 _ _, 86, c3, Or.inl (c4 _ _).2.1, hvi, by rw [e86 vs i hil]; exact next⟩⟩
          | some b =>
            have hb := bstlt _ _ _ (by omega) hz
            rw [hz] at next
            dsimp only at next
            show ((nI b ≤ nI (xs.getD i 0) → _) ∧ (¬ nI b ≤ nI (xs.getD i 0) → _))
            rw [nI_leI (by omega) (by omega)]
            refine ⟨fun h => ?_, fun h => ⟨c1 _ _, 86, c3, Or.inl (c4 _ _).2.1, hvi, ?_⟩⟩
            · rw [if_neg (by rw [decide_eq_false (by omega)]; decide)] at next
              exact next
            · rw [if_pos (decide_eq_true (by omega))] at next
              rw [e86 vs i hil]
              exact next
  have outer : ∀ t m, t + m = xs.length → zx_To l E (d + 1) 79 8 [some (.ref 84), some (.ref 6), some (.int (nI (zo_last (zn_rs xs) m))), some (.int (nI m)), none, none] [] (zy_tell I (((zn_rs xs).take m).map nI), L, Y) (fun r M' => r = none ∧ Qv M') := by
    intro t
    induction t with
    | zero =>
      intro m hm
      have em : m = xs.length := by omega
      rw [em, ← r1, List.take_length, r1]
      exact sg_79_8 hY _ _ _ ⟨c1 _ _, fun _ => ⟨rfl, hq⟩, fun h => absurd (by rw [e2]; exact nI_le (Nat.le_refl _) (by omega)) h⟩
    | succ t ih =>
      intro m hm
      refine sg_79_8 hY _ _ _ ⟨c1 _ _, fun h => ?_, fun _ => ?_⟩
      · rw [e2] at h
        exact absurd ((nI_leI (by omega) (by omega)).mp h) (by omega)
      · refine inner _ m (by omega) (fun v hv => ?_) xs.length 0 (by omega)
        refine zy_82 hY (by rw [List.length_map, List.length_take]; omega) ⟨hY, ?_⟩
        have next := ih (m + 1) (by omega)
        have el : zo_last (zn_rs xs) (m + 1) = v := by unfold zo_last; rw [if_neg (by omega), hv]; rfl
        rw [el, zn_take_s (by omega), List.map_append, List.map_cons, List.map_nil, ← hv] at next
        rw [nI_1]
        exact next
  refine sg_79_0 hY _ (zy_81 hY ⟨hY, ?_⟩)
  exact outer xs.length 0 (by omega)
/-! the reference -/
theorem zy_242 (hY : zx_lay Y) (hn5 : n ≤ 5) (hq : Q (nI (6 ^ n)) (I, L, Y)) : zx_Ci l E d 242 [.int (nI n)] (I, L, Y) Q := by
  have loop : ∀ m i, m + i = n → zx_To l E d 242 4 [some (.int (nI n)), some (.int (nI (6 ^ i))), some (.int (nI i))] [] (I, L, Y) (fun r M' => ∃ v, r = some (.int v) ∧ Q v M') := by
    intro m
    induction m with
    | zero =>
      intro i hi
      have ei : i = n := by omega
      subst ei
      exact sg_242_4 hY _ _ _ ⟨fun _ => ⟨_, rfl, hq⟩, fun h => absurd (nI_le (Nat.le_refl _) (by omega)) h⟩
    | succ m ih =>
      intro i hi
      refine sg_242_4 hY _ _ _ ⟨fun h => absurd ((nI_leI (by omega) (by omega)).mp h) (by omega), fun _ => ?_⟩
      rw [show (6 : Int32) = nI 6 by decide, pk_mul, nI_1, ← Nat.pow_succ]
      exact ih (i + 1) (by omega)
  exact sg_242_0 hY _ (loop n 0 (by omega))
/-- safe of all people -/
def zn_sfp (f : Nat → Nat) (P k : Nat) : Nat → Bool := fun c => (List.range P).all (fun i => !zy_cm c (f i) (nI k))
theorem zy_244 (hY : zx_lay Y) {P k c : Nat} (hP : P ≤ 10) (h3 : I 132 3 = nI P) {f : Nat → Nat} (hf : ∀ p, p < P → I 134 p = nI (f p) ∧ f p < 5764801) (hc : c < 5764801) (hq : Q (if zn_sfp f P k c then 1 else 0) (I, L, Y)) : zx_Ci l E (d + 4) 244 [.ref 132, .int (nI c), .int (nI k)] (I, L, Y) Q := by
  have loop : ∀ m p (b : Bool), m + p = P → b = (List.range p).all (fun i => !zy_cm c (f i) (nI k)) → zx_To l E (d + 4) 244 5 [some (.ref 132), some (.int (nI c)), some (.int (nI k)), some (.int (if b then 1 else 0)), some (.int (nI p))] [] (I, L, Y) (fun r M' => ∃ v, r = some (.int v) ∧ Q v M') := by
    intro m
    induction m with
    | zero =>
      intro p b hp hb
      have ep : p = P := by omega
      subst ep
      refine sg_244_5 hY _ _ _ _ ⟨fun _ => ⟨by cases b <;> simp, _, rfl, ?_⟩, fun h => absurd (by rw [h3]; exact nI_le (Nat.le_refl _) (by omega)) h⟩
      rw [hb]; exact hq
    | succ m ih =>
      intro p b hp hb
      obtain ⟨g1, g2⟩ := hf p (by omega)
      have next := fun b' h => ih (p + 1) b' (by omega) h
      rw [List.range_succ, List.all_append, ← hb] at next
      have e1 : ([p].all fun i => !zy_cm c (f i) (nI k)) = !zy_cm c (f p) (nI k) := by simp
      rw [e1] at next
      refine sg_244_5 hY _ _ _ _ ⟨fun h => ?_, fun _ => ⟨fun h => ?_, fun h => ⟨vp_in_nI (by omega) (by omega), ?_⟩⟩⟩
      · rw [h3] at h
        exact absurd ((nI_leI (by omega) (by omega)).mp h) (by omega)
      · rw [zy_b0] at h
        subst h
        rw [nI_1]
        exact next false rfl
      · rw [zy_b1] at h
        subst h
        rw [nI_clamp (by omega), g1, nI_1]
        refine zy_216 hY hc g2 ⟨hY, fun h2 => ?_, fun h2 => ?_⟩
        · rw [zy_b1] at h2
          exact next false (by rw [h2]; rfl)
        · rw [zy_b0] at h2
          exact next true (by rw [h2]; rfl)
  exact sg_244_0 hY _ _ (loop P 0 true (by omega) rfl)
theorem zy_245 (hY : zx_lay Y) {gs : List Nat} {k c : Nat} (h6 : gs.length ≤ 6) (hg : ∀ j, j < gs.length → I 150 j = nI (gs.getD j 0)) (hn1 : 1 ≤ n) (hn5 : n ≤ 5) (hk : k ≤ 8) (hc : zn_d n c) (hgd : ∀ g ∈ gs, zn_d n g) (hq : Q (if gs.all (fun g => decide (c / 7 ^ (n - max 1 (n - k)) ≠ g / 7 ^ (n - max 1 (n - k)))) then 1 else 0) (I, L, Y)) : zx_Ci l E (d + 4) 245 [.ref 132, .int (nI c), .int (nI gs.length), .int (nI k)] (I, L, Y) Q := by
  have l16 : ∀ g, zn_d n g → g < 16807 := fun g h => Nat.lt_of_lt_of_le (zn_d_lt h) (zn_pow5 hn5)
  have hc16 := l16 c hc
  have gm : ∀ k, k < gs.length → gs.getD k 0 ∈ gs := fun k hk => by rw [List.getD_eq_getElem?_getD, List.getElem?_eq_getElem hk]; exact List.getElem_mem _
  have loop : ∀ m i (b : Bool), m + i = gs.length → b = (gs.take i).all (fun g => decide (c / 7 ^ (n - max 1 (n - k)) ≠ g / 7 ^ (n - max 1 (n - k)))) → zx_To l E (d + 4) 245 6 [some (.ref 132), some (.int (nI c)), some (.int (nI gs.length)), some (.int (nI k)), some (.int (if b then 1 else 0)), some (.int (nI i))] [] (I, L, Y) (fun r M' => ∃ v, r = some (.int v) ∧ Q v M') := by
    intro m
    induction m with
    | zero =>
      intro i b hi hb
      have ei : i = gs.length := by omega
      rw [ei, List.take_length] at hb
      refine sg_245_6 hY _ _ _ _ _ ⟨fun _ => ⟨by cases b <;> simp, _, rfl, ?_⟩, fun h => absurd (nI_le (by omega) (by omega)) h⟩
      rw [hb]; exact hq
    | succ m ih =>
      intro i b hi hb
      have hil : i < gs.length := by omega
      have hgi := hgd _ (gm i hil)
      have hg16 := l16 _ hgi
      have next := fun b' h => ih (i + 1) b' (by omega) h
      rw [zn_take_s hil, List.all_append, ← hb] at next
      have e1 : ([gs.getD i 0].all fun g => decide (c / 7 ^ (n - max 1 (n - k)) ≠ g / 7 ^ (n - max 1 (n - k)))) = decide (c / 7 ^ (n - max 1 (n - k)) ≠ gs.getD i 0 / 7 ^ (n - max 1 (n - k))) := by simp
      rw [e1] at next
      have hv := vp_in_nI (n := i) (N := 6) (by omega) (by omega)
      refine sg_245_6 hY _ _ _ _ _ ⟨fun h => absurd ((nI_leI (by omega) (by omega)).mp h) (by omega), fun _ => ⟨fun h => ?_, fun h => ⟨hv, ?_⟩⟩⟩
      · rw [zy_b0] at h
        subst h
        rw [nI_1]
        exact next false rfl
      · rw [zy_b1] at h
        subst h
        rw [nI_clamp (by omega), hg i hil, nI_eq (by omega) (by omega), nI_1]
        refine ⟨fun h2 => next false ?_, fun h2 => ⟨hv, zy_216 hY (by omega) (by omega) ⟨hY, fun h3 => ?_, fun h3 => ?_⟩⟩⟩
        · rw [h2, decide_eq_false (fun q => q rfl)]; rfl
        · rw [zy_b1, zn_cm2 (by omega) (by omega) hc.2 hgi.2 hn1 hk, decide_eq_true_eq] at h3
          exact next false (by rw [decide_eq_false (fun q => q h3)]; rfl)
        · rw [zy_b0, zn_cm2 (by omega) (by omega) hc.2 hgi.2 hn1 hk, decide_eq_false_iff_not] at h3
          exact next true (by rw [decide_eq_true h3]; rfl)
  exact sg_245_0 hY _ _ _ (loop gs.length 0 true (by omega) rfl)
end YTe
