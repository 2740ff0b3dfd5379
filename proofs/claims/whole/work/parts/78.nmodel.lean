/-! ===== new names: names and safe of the reference ===== -/
section YNm
variable {l : Launch} {E : zx_E} {d : Nat} {I : Nat → Nat → Int32} {L : Nat → Nat → Int64} {Y : zx_Y} {Qo : Option Value → zx_M → Prop} {Q : Int32 → zx_M → Prop} {Qv : zx_M → Prop} {pr : Nat → Nat} {n k many P : Nat} {f : Nat → Nat}
/-- what the reference looks at -/
def zn_G (I : Nat → Nat → Int32) (n k P : Nat) (f : Nat → Nat) (pr : Nat → Nat) : Prop := (1 ≤ n ∧ n ≤ 5 ∧ k ≤ 8) ∧ (P ≤ 10 ∧ I 132 3 = nI P ∧ ∀ p, p < P → I 134 p = nI (f p) ∧ f p < 5764801) ∧ ∀ x, 1 ≤ x → x ≤ 6 → I 137 (x - 1) = nI (pr x) ∧ pr x ≤ 9
theorem zn_G_cong {J : Nat → Nat → Int32} (h : zn_G I n k P f pr) (hf : ∀ a j, a = 134 ∨ a = 137 ∨ (a = 132 ∧ j = 3) → J a j = I a j) : zn_G J n k P f pr := by
  obtain ⟨h1, ⟨h2, h3, h4⟩, h5⟩ := h
  refine ⟨h1, ⟨h2, ?_, fun p hp => ?_⟩, fun x a b => ?_⟩
  · rw [hf _ _ (by omega)]; exact h3
  · rw [hf _ _ (by omega)]; exact h4 p hp
  · rw [hf _ _ (by omega)]; exact h5 x a b
theorem zy_208n (hY : zx_lay Y) (hG : zn_G I n k P f pr) {c : Nat} (hc : c < 5764801) (hd : zy_dig c = true) (hq : Q (nI (zn_c pr c)) (I, L, Y)) : zx_Ci l E d 208 [.ref 132, .int (nI c)] (I, L, Y) Q := by
  refine zy_208 hY hc hd ?_
  have := zn_pc_n (g := I 137) (pr := pr) (fun x a b => (hG.2.2 x a b).1) 8 c 0 hc hd
  unfold zy_pc
  rw [← nI_0, this, Nat.zero_add]
  exact hq
theorem zn_c45 (hG : zn_G I n k P f pr) {c : Nat} (hc : zn_d n c) : zn_c pr c ≤ 45 ∧ c < 16807 := by
  have := zn_c_le (fun x a b => (hG.2.2 x a b).2) n c hc
  obtain ⟨⟨h1, h2, h3⟩, -⟩ := hG
  exact ⟨by omega, Nat.lt_of_lt_of_le (zn_d_lt hc) (zn_pow5 h2)⟩
/-- the next one: all are looked through -/
theorem zy_246_61 (hY : zx_lay Y) (hG : zn_G I n k P f pr) {gs : List Nat} {sum : Nat} (hg6 : gs.length < many) (hm6 : many ≤ 6) (hgd : ∀ g ∈ gs, zn_d n g) (hI : ∀ j, j < gs.length → I 150 j = nI (gs.getD j 0))
    (q0 : zn_b1 (zn_okg (zn_sfp f P k) (n - max 1 (n - k)) gs) pr n (6 ^ n) = none → Qo (some (.int (-2))) (I, L, Y))
    (q1 : ∀ g, zn_d n g → zn_b1 (zn_okg (zn_sfp f P k) (n - max 1 (n - k)) gs) pr n (6 ^ n) = some g → zx_To l E (d + 5) 246 49 [some (.ref 132), some (.int (nI many)), some (.int (nI n)), some (.int (nI k)), some (.int (nI (sum + zn_c pr g))), some (.int (nI (gs.length + 1))), none, none, none] [] (zx_u2 I 150 gs.length (nI g), L, Y) Qo) :
    zx_To l E (d + 5) 246 61 [some (.ref 132), some (.int (nI many)), some (.int (nI n)), some (.int (nI k)), some (.int (nI sum)), some (.int (nI gs.length)), some (.int (-1)), some (.int 0), none] [] (I, L, Y) Qo := by
  obtain ⟨⟨h1, h2, h3⟩, ⟨p1, p2, p3⟩, p4⟩ := id hG
  have hpow : 6 ^ n ≤ 7776 := Nat.le_trans (Nat.pow_le_pow_right (by omega) h2) (by decide)
  have nad : ∀ x, x < 6 ^ n → zn_d n (zl_na 6 n x) := fun x hx => (zn_na_d _).mpr ⟨x, hx, rfl⟩
  have bd : ∀ x b, x ≤ 6 ^ n → zn_b1 (zn_okg (zn_sfp f P k) (n - max 1 (n - k)) gs) pr n x = some b → zn_d n b := fun x b hx hz => by
    have ok := zn_b1_ok (ok := zn_okg (zn_sfp f P k) (n - max 1 (n - k)) gs) (pr := pr) h2 x hx
    rw [hz] at ok
    obtain ⟨⟨y, a1, a2⟩, -⟩ := ok
    rw [← a2]; exact nad y (by omega)
  have loop : ∀ m x, m + x = 6 ^ n → zx_To l E (d + 5) 246 61 [some (.ref 132), some (.int (nI many)), some (.int (nI n)), some (.int (nI k)), some (.int (nI sum)), some (.int (nI gs.length)), some (.int (zo_be (zn_b1 (zn_okg (zn_sfp f P k) (n - max 1 (n - k)) gs) pr n x))), some (.int (nI x)), none] [] (I, L, Y) Qo := by
    intro m
    induction m with
    | zero =>
      intro x hx
      have ex : x = 6 ^ n := by omega
      subst ex
      refine sg_246_61 hY _ _ _ _ _ _ _ (zy_242 hY h2 ⟨hY, fun _ => ?_, fun h => absurd (nI_le (Nat.le_refl _) (by omega)) h⟩)
      cases hz : zn_b1 (zn_okg (zn_sfp f P k) (n - max 1 (n - k)) gs) pr n (6 ^ n) with
      | none => exact ⟨fun h => absurd h (by decide), fun _ => q0 hz⟩
      | some g =>
        have hgd' := bd _ _ (Nat.le_refl _) hz
        obtain ⟨c1, c2⟩ := zn_c45 hG hgd'
        refine ⟨fun _ => ⟨vp_in_nI (by omega) (by omega), ?_⟩, fun h => absurd (show (0 : Int32) ≤ nI g from nI_pos' (by omega)) h⟩
        rw [nI_clamp (by omega)]
        refine zy_208n (I := zx_u2 I 150 gs.length (nI g)) hY (zn_G_cong hG (fun a j ha => zy_u2_na (by omega))) (by omega) hgd'.1 ⟨hY, ?_⟩
        rw [nI_add, nI_1]
        exact q1 g hgd' hz
    | succ m ih =>
      intro x hx
      have hnd := nad x (by omega)
      obtain ⟨c1, c2⟩ := zn_c45 hG hnd
      have next := ih (x + 1) (by omega)
      rw [zn_b1] at next
      refine sg_246_61 hY _ _ _ _ _ _ _ (zy_242 hY h2 ⟨hY, fun h => absurd ((nI_leI (by omega) (by omega)).mp h) (by omega), fun _ => ?_⟩)
      refine zy_243 (w := 6) hY (by omega) (by omega) (by omega) (by omega) ⟨hY, ?_⟩
      -- safe, and new
      have both : ∀ (yes : Bool) (no yesTo : Prop), (yes = true → zn_okg (zn_sfp f P k) (n - max 1 (n - k)) gs (zl_na 6 n x) = true → yesTo) → ((zn_okg (zn_sfp f P k) (n - max 1 (n - k)) gs (zl_na 6 n x)) = false → no) → yes = true →
          zx_Ci l E (d + 4) 244 [.ref 132, .int (nI (zl_na 6 n x)), .int (nI k)] (I, L, Y) (fun v8 M7 => zx_lay M7.2.2 ∧ (M7 = (I, L, Y) ∧ ((v8 = 0 → no) ∧ (¬ v8 = 0 → zx_Ci l E (d + 4) 245 [.ref 132, .int (nI (zl_na 6 n x)), .int (nI gs.length), .int (nI k)] (I, L, Y) (fun v10 M9 => zx_lay M9.2.2 ∧ (M9 = (I, L, Y) ∧ ((v10 = 0 → no) ∧ (¬ v10 = 0 → yesTo)))))))) := by
        intro yes no yesTo hy hn hyes
        refine zy_244 hY p1 p2 p3 (by omega) ⟨hY, rfl, fun h => hn ?_, fun h => ?_⟩
        · rw [zy_b0] at h
          unfold zn_okg; rw [h]; rfl
        · rw [zy_b1] at h
          refine zy_245 hY (by omega) hI h1 h2 h3 hnd hgd ⟨hY, rfl, fun h4 => hn ?_, fun h4 => hy hyes ?_⟩
          · rw [zy_b0] at h4
            unfold zn_okg; rw [h4, Bool.and_false]
          · rw [zy_b1] at h4
            unfold zn_okg; rw [h, h4]; rfl
      rw [nI_1]
      cases hz : zn_b1 (zn_okg (zn_sfp f P k) (n - max 1 (n - k)) gs) pr n x with
      | none =>
        rw [hz] at next
        dsimp only at next
        rw [Bool.true_and] at next
        refine ⟨fun _ => ?_, fun h => absurd (show (-1 : Int32) < 0 by decide) h⟩
        refine zx_Ci.mono (both true (zx_To l E (d + 5) 246 61 [some (.ref 132), some (.int (nI many)), some (.int (nI n)), some (.int (nI k)), some (.int (nI sum)), some (.int (nI gs.length)), some (.int (zo_be none)), some (.int (nI (x + 1))), none] [] (I, L, Y) Qo) (zx_To l E (d + 5) 246 61 [some (.ref 132), some (.int (nI many)), some (.int (nI n)), some (.int (nI k)), some (.int (nI sum)), some (.int (nI gs.length)), some (.int (nI (zl_na 6 n x))), some (.int (nI (x + 1))), none] [] (I, L, Y) Qo) (fun _ h => by rw [if_pos h] at next; exact next) (fun h => by rw [if_neg (by rw [h]; decide)] at next; exact next) rfl) (fun v8 M7 g => ⟨g.1, fun h => ?_, fun h => ?_⟩)
        · rw [g.2.1]; exact g.2.2.1 h
        · rw [g.2.1]
          refine zx_Ci.mono (g.2.2.2 h) (fun v10 M9 g2 => ⟨g2.1, fun h => ?_, fun h => ?_⟩)
          · rw [g2.2.1]; exact g2.2.2.1 h
          · rw [g2.2.1]; exact g2.2.2.2 h
      | some b =>
        have hbd := bd x b (by omega) hz
        obtain ⟨c3, c4⟩ := zn_c45 hG hbd
        rw [hz] at next
        dsimp only at next
        refine ⟨fun h => absurd h (show ¬ nI b < 0 from nI_pos (by omega)), fun _ => ?_⟩
        refine zy_208n hY hG (by omega) hnd.1 ⟨hY, ?_⟩
        refine zy_208n hY hG (by omega) hbd.1 ⟨hY, ?_⟩
        rw [nI_leI (by omega) (by omega)]
        refine ⟨fun h => ?_, fun h => ?_⟩
        · rw [if_neg (by rw [decide_eq_false (by omega), Bool.false_and]; decide)] at next
          exact next
        · have hlt : zn_c pr (zl_na 6 n x) < zn_c pr b := by omega
          refine zx_Ci.mono (both true (zx_To l E (d + 5) 246 61 [some (.ref 132), some (.int (nI many)), some (.int (nI n)), some (.int (nI k)), some (.int (nI sum)), some (.int (nI gs.length)), some (.int (nI b)), some (.int (nI (x + 1))), none] [] (I, L, Y) Qo) (zx_To l E (d + 5) 246 61 [some (.ref 132), some (.int (nI many)), some (.int (nI n)), some (.int (nI k)), some (.int (nI sum)), some (.int (nI gs.length)), some (.int (nI (zl_na 6 n x))), some (.int (nI (x + 1))), none] [] (I, L, Y) Qo) (fun _ h => by rw [if_pos (by rw [decide_eq_true hlt, h]; rfl)] at next; exact next) (fun h => by rw [if_neg (by rw [h, Bool.and_false]; decide)] at next; exact next) rfl) (fun v8 M7 g => ⟨g.1, fun h => ?_, fun h => ?_⟩)
          · rw [g.2.1]; exact g.2.2.1 h
          · rw [g.2.1]
            refine zx_Ci.mono (g.2.2.2 h) (fun v10 M9 g2 => ⟨g2.1, fun h => ?_, fun h => ?_⟩)
            · rw [g2.2.1]; exact g2.2.2.1 h
            · rw [g2.2.1]; exact g2.2.2.2 h
  exact loop (6 ^ n) 0 (by omega)
/-- the row of what was taken, rising -/
theorem zy_246_177 (hY : zx_lay Y) {gs : List Nat} {v : Int32} (h6 : gs.length ≤ 6) (hI : ∀ j, j < gs.length → I 150 j = nI (gs.getD j 0)) (hx : ∀ x ∈ gs, x ≠ 0 ∧ x < 16807) (hnd : gs.Nodup) (hq : Qo (some (.int v)) (zy_ent I ((zn_rs gs).map nI), L, Y)) :
    zx_To l E (d + 1) 246 177 [some (.ref 132), some (.int (nI gs.length)), none, none, some (.int v), some (.int 0), some (.int 0), none, none] [] (zx_u2 I 132 1 0, L, Y) Qo := by
  obtain ⟨r1, r2⟩ := zn_rs_ok (fun x hx' => (hx x hx').1) hnd
  have gm : ∀ k, k < gs.length → gs.getD k 0 ∈ gs := fun k hk => by rw [List.getD_eq_getElem?_getD, List.getElem?_eq_getElem hk]; exact List.getElem_mem _
  have e150 : ∀ vs k, k < gs.length → zy_ent I vs 150 k = nI (gs.getD k 0) := fun vs k hk => by rw [zy_ent_el (by omega)]; exact hI k hk
  have bstlt : ∀ last p u, p ≤ gs.length → zo_bst (fun _ => true) (fun i => gs.getD i 0) last p = some u → u < 16807 := fun last p u hp hz => by
    have ok := zo_bst_ok (g := fun _ => true) (f := fun i => gs.getD i 0) (last := last) p
    rw [hz] at ok
    obtain ⟨⟨q, a1, -, a3⟩, -⟩ := ok
    rw [← a3]; exact (hx _ (gm q (by omega))).2
  have lastlt : ∀ m, m ≤ gs.length → zo_last (zn_rs gs) m < 16807 := fun m hm => by
    unfold zo_last
    split
    · omega
    · have := r2 (m - 1) (by omega)
      rw [if_pos (by omega)] at this
      exact bstlt _ _ _ (Nat.le_refl _) this
  have inner : ∀ (vs : List Int32) (m : Nat), m < gs.length → (∀ u, u = (zn_rs gs).getD m 0 → zx_Cv l E d 170 [.ref 132, .int (nI u)] (zy_ent I vs, L, Y) (fun M1 => zx_lay M1.2.2 ∧ zx_To l E (d + 1) 246 177 [some (.ref 132), some (.int (nI gs.length)), none, none, some (.int v), some (.int (nI u)), some (.int (nI m + 1)), none, none] [] (M1.1, M1.2.1, M1.2.2) Qo)) →
      ∀ t i, t + i = gs.length → zx_To l E (d + 1) 246 189 [some (.ref 132), some (.int (nI gs.length)), none, none, some (.int v), some (.int (nI (zo_last (zn_rs gs) m))), some (.int (nI m)), some (.int (zo_be (zo_bst (fun _ => true) (fun i => gs.getD i 0) (zo_last (zn_rs gs) m) i))), some (.int (nI i))] [] (zy_ent I vs, L, Y) Qo := by
    intro vs m hm hend t
    have hll := lastlt m (by omega)
    induction t with
    | zero =>
      intro i hi
      have ei : i = gs.length := by omega
      subst ei
      rw [r2 m (by omega), if_pos hm]
      exact sg_246_189 hY _ _ _ _ _ _ ⟨fun _ => hend _ rfl, fun h => absurd (nI_le (Nat.le_refl _) (by omega)) h⟩
    | succ t ih =>
      intro i hi
      have hil : i < gs.length := by omega
      have hxi := hx _ (gm i hil)
      have next := ih (i + 1) (by omega)
      rw [zo_bst, Bool.true_and] at next
      have hv := vp_in_nI (n := i) (N := 6) (by omega) (by omega)
      refine sg_246_189 hY _ _ _ _ _ _ ⟨fun h => absurd ((nI_leI (by omega) (by omega)).mp h) (by omega), fun _ => ⟨hv, ?_⟩⟩
      rw [nI_clamp (by omega), e150 vs i hil, nI_leI (by omega) (by omega), nI_1]
      refine ⟨fun h => ?_, fun h => ?_⟩
      · rw [decide_eq_false (by omega), Bool.false_and, if_neg (by decide)] at next
        exact next
      · rw [decide_eq_true (by omega), Bool.true_and] at next
        cases hz : zo_bst (fun _ => true) (fun i => gs.getD i 0) (zo_last (zn_rs gs) m) i with
        | none =>
          rw [hz] at next
          dsimp only at next
          rw [if_pos rfl] at next
          exact ⟨fun _ => ⟨hv, next⟩, fun h => absurd (show (-1 : Int32) < 0 by decide) h⟩
        | some b =>
          have hb := bstlt _ _ _ (by omega) hz
          rw [hz] at next
          dsimp only at next
          show ((nI b < 0 → _) ∧ (¬ nI b < 0 → vp_in (nI i) 6 ∧ ((nI b ≤ nI (gs.getD i 0) → _) ∧ (¬ nI b ≤ nI (gs.getD i 0) → _))))
          rw [nI_leI (by omega) (by omega)]
          refine ⟨fun h => absurd h (nI_pos (by omega)), fun _ => ⟨hv, fun h => ?_, fun h => ⟨hv, ?_⟩⟩⟩
          · rw [if_neg (by rw [decide_eq_false (by omega)]; decide)] at next
            exact next
          · rw [if_pos (decide_eq_true (by omega))] at next
            exact next
  have outer : ∀ t m, t + m = gs.length → zx_To l E (d + 1) 246 177 [some (.ref 132), some (.int (nI gs.length)), none, none, some (.int v), some (.int (nI (zo_last (zn_rs gs) m))), some (.int (nI m)), none, none] [] (zy_ent I (((zn_rs gs).take m).map nI), L, Y) Qo := by
    intro t
    induction t with
    | zero =>
      intro m hm
      have em : m = gs.length := by omega
      rw [em, ← r1, List.take_length, r1]
      exact sg_246_177 hY _ _ _ _ ⟨fun _ => hq, fun h => absurd (nI_le (Nat.le_refl _) (by omega)) h⟩
    | succ t ih =>
      intro m hm
      refine sg_246_177 hY _ _ _ _ ⟨fun h => absurd ((nI_leI (by omega) (by omega)).mp h) (by omega), fun _ => ?_⟩
      refine inner _ m (by omega) (fun u hu => ?_) gs.length 0 (by omega)
      refine zy_170 hY (by rw [List.length_map, List.length_take]; omega) ⟨hY, ?_⟩
      have next := ih (m + 1) (by omega)
      have el : zo_last (zn_rs gs) (m + 1) = u := by unfold zo_last; rw [if_neg (by omega), hu]; rfl
      rw [el, zn_take_s (by omega), List.map_append, List.map_cons, List.map_nil, ← hu] at next
      rw [nI_1]
      exact next
  rw [zy_ent_nil]
  exact outer gs.length 0 (by omega)
/-- names of the reference, from its first turn on -/
theorem zy_246_49 (hY : zx_lay Y) (hG : zn_G I n k P f pr) (hm1 : 1 ≤ many) (hm6 : many ≤ 6)
    (q0 : ∀ gs, gs.length < many → zn_top (zn_k pr) many (zn_rep pr (n - max 1 (n - k)) (fun e => zn_d n e ∧ zn_sfp f P k e = true)) gs → Qo (some (.int (-2))) (zo_wr I 150 gs, L, Y))
    (q1 : ∀ gs, gs.length = many → zn_top (zn_k pr) many (zn_rep pr (n - max 1 (n - k)) (fun e => zn_d n e ∧ zn_sfp f P k e = true)) gs → Qo (some (.int (nI (zn_sum pr gs)))) (zy_ent (zo_wr I 150 gs) ((zn_rs gs).map nI), L, Y)) :
    zx_To l E (d + 5) 246 49 [some (.ref 132), some (.int (nI many)), some (.int (nI n)), some (.int (nI k)), some (.int 0), some (.int 0), none, none, none] [] (I, L, Y) Qo := by
  obtain ⟨⟨h1, h2, h3⟩, ⟨p1, p2, p3⟩, p4⟩ := id hG
  have loop : ∀ m gs, m + gs.length = many → zn_top (zn_k pr) gs.length (zn_rep pr (n - max 1 (n - k)) (fun e => zn_d n e ∧ zn_sfp f P k e = true)) gs → zx_To l E (d + 5) 246 49 [some (.ref 132), some (.int (nI many)), some (.int (nI n)), some (.int (nI k)), some (.int (nI (zn_sum pr gs))), some (.int (nI gs.length)), none, none, none] [] (zo_wr I 150 gs, L, Y) Qo := by
    intro m
    induction m with
    | zero =>
      intro gs hm ht
      have em : gs.length = many := by omega
      refine sg_246_49 hY _ _ _ _ _ ⟨fun _ => ?_, fun h => absurd (nI_le (by omega) (by omega)) h⟩
      rw [← em]
      rw [show d + 5 = d + 4 + 1 by omega]
      refine zy_246_177 (I := zo_wr I 150 gs) hY (by omega) (fun j hj => zo_wr_at hj) (fun x hx => ?_) (zn_nodup ht.1) (q1 gs em (by rw [← em]; exact ht))
      have hd := (ht.2.2.1 x hx).1.1
      refine ⟨fun q => ?_, (zn_c45 hG hd).2⟩
      have := hd.2
      rw [q, zy_len_0] at this; omega
    | succ m ih =>
      intro gs hm ht
      refine sg_246_49 hY _ _ _ _ _ ⟨fun h => absurd ((nI_leI (by omega) (by omega)).mp h) (by omega), fun _ => ?_⟩
      have hgr := zn_greedy h2 ht
      refine zy_246_61 hY (zn_G_cong hG (fun a j ha => zo_wr_el (by omega))) (by omega) hm6 (fun g hg => (ht.2.2.1 g hg).1.1) (fun j hj => zo_wr_at hj) (fun hz => ?_) (fun g hgd hz => ?_)
      · rw [hz] at hgr
        exact q0 gs (by omega) (hgr many (by omega))
      · rw [hz] at hgr
        have := ih (gs ++ [g]) (by rw [List.length_append]; show m + (gs.length + 1) = many; omega) hgr.2
        rw [zn_sum_app, List.length_append] at this
        have ew : zx_u2 (zo_wr I 150 gs) 150 gs.length (nI g) = zo_wr I 150 (gs ++ [g]) := by
          funext a j
          unfold zo_wr zx_u2
          dsimp only
          rw [zl_app_getD, List.length_append, List.length_singleton]
          by_cases ha : a = 150
          · subst ha
            by_cases e : j = gs.length
            · simp [e]
            · by_cases z : j < gs.length
              · have z2 : j < gs.length + 1 := by omega
                simp [e, z, z2]
              · have z2 : ¬ j < gs.length + 1 := by omega
                simp [e, z, z2]
          · simp [ha]
        rw [ew]
        exact this
  have := loop many [] (by simp) ⟨List.Pairwise.nil, Nat.le_refl _, fun x hx => (by cases hx), fun s _ => Or.inr ⟨rfl, fun x hx => (by cases hx)⟩⟩
  rw [zo_wr_nil] at this
  exact this
/-- safe of the reference -/
def zn_ct (sf : Nat → Bool) (n : Nat) : Nat → Nat
  | 0 => 0
  | x + 1 => if sf (zl_na 6 n x) then zn_ct sf n x + 1 else zn_ct sf n x
theorem zn_ct_b1 {sf : Nat → Bool} {pr : Nat → Nat} {n : Nat} : ∀ x, zn_ct sf n x = 0 ↔ zn_b1 sf pr n x = none
  | 0 => ⟨fun _ => rfl, fun _ => rfl⟩
  | x + 1 => by
    have ih := zn_ct_b1 (sf := sf) (pr := pr) (n := n) x
    rw [zn_ct, zn_b1]
    by_cases h : sf (zl_na 6 n x) = true
    · rw [if_pos h]
      cases hz : zn_b1 sf pr n x with
      | none => dsimp only; rw [Bool.true_and, if_pos h]; simp
      | some b =>
        dsimp only
        split
        · simp
        · simp
    · have hf : sf (zl_na 6 n x) = false := by simpa using h
      rw [if_neg h, hf, Bool.and_false, if_neg (by decide)]; exact ih
theorem zn_ct_le {sf : Nat → Bool} {n : Nat} : ∀ x, zn_ct sf n x ≤ x
  | 0 => Nat.le_refl _
  | x + 1 => by have := zn_ct_le (sf := sf) (n := n) x; rw [zn_ct]; split <;> omega
theorem zy_247_42 (hY : zx_lay Y) (hG : zn_G I n k P f pr)
    (hq : ∀ w b, zn_ct (zn_sfp f P k) n (6 ^ n) = w → (w = 0 → b = []) → (w ≠ 0 → ∃ u v, zn_b1 (zn_sfp f P k) (fun _ => 0) n (6 ^ n) = some u ∧ zn_b1 (zn_sfp f P k) pr n (6 ^ n) = some v ∧ b = [nI u, nI v]) → Qo (some (.int (nI w))) (zy_ent I b, L, Y)) :
    zx_To l E (d + 5) 247 42 [some (.ref 132), some (.int (nI n)), some (.int (nI k)), some (.int 0), some (.int 0), some (.int 0), some (.int 0), none] [] (I, L, Y) Qo := by
  obtain ⟨⟨h1, h2, h3⟩, ⟨p1, p2, p3⟩, p4⟩ := id hG
  have hpow : 6 ^ n ≤ 7776 := Nat.le_trans (Nat.pow_le_pow_right (by omega) h2) (by decide)
  have nad : ∀ x, x < 6 ^ n → zn_d n (zl_na 6 n x) := fun x hx => (zn_na_d _).mpr ⟨x, hx, rfl⟩
  have loop : ∀ m x, m + x = 6 ^ n → zx_To l E (d + 5) 247 42 [some (.ref 132), some (.int (nI n)), some (.int (nI k)), some (.int (nI (zn_ct (zn_sfp f P k) n x))), some (.int (nI ((zn_b1 (zn_sfp f P k) (fun _ => 0) n x).getD 0))), some (.int (nI ((zn_b1 (zn_sfp f P k) pr n x).getD 0))), some (.int (nI x)), none] [] (I, L, Y) Qo := by
    intro m
    induction m with
    | zero =>
      intro x hx
      have ex : x = 6 ^ n := by omega
      subst ex
      have hle := zn_ct_le (sf := zn_sfp f P k) (n := n) (6 ^ n)
      refine sg_247_42 hY _ _ _ _ _ _ (zy_242 hY h2 ⟨hY, fun _ => ?_, fun h => absurd (nI_le (Nat.le_refl _) (by omega)) h⟩)
      rw [zy_le0 (by omega)]
      refine ⟨fun h => ?_, fun h => ?_⟩
      · have := hq _ [] rfl (fun _ => rfl) (fun q => absurd h q)
        rw [← zy_ent_nil] at this
        exact this
      · cases hz1 : zn_b1 (zn_sfp f P k) (fun _ => 0) n (6 ^ n) with
        | none => exact absurd ((zn_ct_b1 _).mpr hz1) h
        | some u =>
          cases hz2 : zn_b1 (zn_sfp f P k) pr n (6 ^ n) with
          | none => exact absurd ((zn_ct_b1 _).mpr hz2) h
          | some v =>
            have := hq _ [nI u, nI v] rfl (fun q => absurd q h) (fun _ => ⟨u, v, hz1, hz2, rfl⟩)
            dsimp only
            rw [zy_ent_nil]
            exact zy_170 hY (by simp) ⟨hY, zy_170 hY (by simp) ⟨hY, this⟩⟩
    | succ m ih =>
      intro x hx
      have hnd := nad x (by omega)
      obtain ⟨c1, c2⟩ := zn_c45 hG hnd
      have hle := zn_ct_le (sf := zn_sfp f P k) (n := n) x
      have next := ih (x + 1) (by omega)
      rw [zn_ct, zn_b1, zn_b1] at next
      refine sg_247_42 hY _ _ _ _ _ _ (zy_242 hY h2 ⟨hY, fun h => absurd ((nI_leI (by omega) (by omega)).mp h) (by omega), fun _ => ?_⟩)
      refine zy_243 (w := 6) hY (by omega) (by omega) (by omega) (by omega) ⟨hY, ?_⟩
      refine zy_244 hY p1 p2 p3 (by omega) ⟨hY, fun h => ?_, fun h => ?_⟩
      · rw [zy_b0] at h
        rw [h, Bool.and_false, Bool.and_false, if_neg (by decide), if_neg (by decide), if_neg (by decide)] at next
        rw [nI_1]
        exact next
      · rw [zy_b1] at h
        rw [h, Bool.and_true, Bool.and_true, if_pos rfl] at next
        dsimp only
        rw [zy_eq0 (by omega), nI_1, nI_1]
        by_cases h0 : zn_ct (zn_sfp f P k) n x = 0
        · have z1 := (zn_ct_b1 (pr := fun _ => 0) x).mp h0
          have z2 := (zn_ct_b1 (pr := pr) x).mp h0
          rw [z1, z2] at next
          dsimp only at next
          rw [if_pos rfl] at next
          exact ⟨fun h => absurd h0 h, fun _ => ⟨fun _ => next, fun h => absurd h0 h⟩⟩
        · refine ⟨fun _ => ⟨fun h => absurd h h0, fun _ => ?_⟩, fun h => absurd h h0⟩
          cases hz1 : zn_b1 (zn_sfp f P k) (fun _ => 0) n x with
          | none => exact absurd ((zn_ct_b1 _).mpr hz1) h0
          | some u =>
            cases hz2 : zn_b1 (zn_sfp f P k) pr n x with
            | none => exact absurd ((zn_ct_b1 _).mpr hz2) h0
            | some v =>
              have ok := zn_b1_ok (ok := zn_sfp f P k) (pr := pr) h2 x (by omega)
              rw [hz2] at ok
              obtain ⟨⟨y, a1, a2⟩, -⟩ := ok
              have hvd : zn_d n v := by rw [← a2]; exact nad y (by omega)
              obtain ⟨c3, c4⟩ := zn_c45 hG hvd
              rw [hz1, hz2] at next
              dsimp only at next
              have zc : ∀ e, zn_c (fun _ => 0) e = 0 := by
                intro e
                induction e using Nat.strongRecOn with
                | ind e ihe =>
                  by_cases e0 : e = 0
                  · rw [e0, zn_c_0]
                  · rw [zn_c_s e0, ihe (e / 7) (by omega)]
              rw [if_neg (by rw [zc, zc]; decide)] at next
              refine zy_208n hY hG (by omega) hnd.1 ⟨hY, ?_⟩
              show zx_Ci l E (d + 4) 208 [.ref 132, .int (nI v)] (I, L, Y) _
              refine zy_208n hY hG (by omega) hvd.1 ⟨hY, ?_⟩
              rw [nI_leI (by omega) (by omega)]
              refine ⟨fun h => ?_, fun h => ?_⟩
              · rw [if_neg (by rw [decide_eq_false (by omega)]; decide)] at next
                exact next
              · rw [if_pos (decide_eq_true (by omega))] at next
                exact next
  exact loop (6 ^ n) 0 (by omega)
end YNm
