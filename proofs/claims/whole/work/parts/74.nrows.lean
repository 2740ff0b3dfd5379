/-! ===== new names: rows of picks of the class ===== -/
def zn_cell (Y : zx_Y) (p : Nat) : Prop := (∀ I L, zx_is (I, L, Y) p 7) ∧ Y.1 p 0 = some (p + 1) ∧ Y.1 p 1 = some (p + 2) ∧ (∀ I L, zx_is (I, L, Y) (p + 1) 20 ∧ zx_is (I, L, Y) (p + 2) 20 ∧ zx_ln (I, L, Y) (p + 1) = 6 ∧ zx_ln (I, L, Y) (p + 2) = 6)
theorem zn_pc {Y : zx_Y} (hY : zx_lay Y) {i : Nat} (hi : i < 12) : zn_cell Y (81 + 3 * i) := by
  rcases (show i = 0 ∨ i = 1 ∨ i = 2 ∨ i = 3 ∨ i = 4 ∨ i = 5 ∨ i = 6 ∨ i = 7 ∨ i = 8 ∨ i = 9 ∨ i = 10 ∨ i = 11 by omega) with rfl | rfl | rfl | rfl | rfl | rfl | rfl | rfl | rfl | rfl | rfl | rfl
  · exact ⟨fun I L => zx_lis hY 81 7 rfl rfl, zx_lrf hY 90 81 0 82 rfl, zx_lrf hY 91 81 1 83 rfl, fun I L => ⟨zx_lis hY 82 20 rfl rfl, zx_lis hY 83 20 rfl rfl, zx_lln hY 82 6 rfl rfl, zx_lln hY 83 6 rfl rfl⟩⟩
  · exact ⟨fun I L => zx_lis hY 84 7 rfl rfl, zx_lrf hY 92 84 0 85 rfl, zx_lrf hY 93 84 1 86 rfl, fun I L => ⟨zx_lis hY 85 20 rfl rfl, zx_lis hY 86 20 rfl rfl, zx_lln hY 85 6 rfl rfl, zx_lln hY 86 6 rfl rfl⟩⟩
  · exact ⟨fun I L => zx_lis hY 87 7 rfl rfl, zx_lrf hY 94 87 0 88 rfl, zx_lrf hY 95 87 1 89 rfl, fun I L => ⟨zx_lis hY 88 20 rfl rfl, zx_lis hY 89 20 rfl rfl, zx_lln hY 88 6 rfl rfl, zx_lln hY 89 6 rfl rfl⟩⟩
  · exact ⟨fun I L => zx_lis hY 90 7 rfl rfl, zx_lrf hY 96 90 0 91 rfl, zx_lrf hY 97 90 1 92 rfl, fun I L => ⟨zx_lis hY 91 20 rfl rfl, zx_lis hY 92 20 rfl rfl, zx_lln hY 91 6 rfl rfl, zx_lln hY 92 6 rfl rfl⟩⟩
  · exact ⟨fun I L => zx_lis hY 93 7 rfl rfl, zx_lrf hY 98 93 0 94 rfl, zx_lrf hY 99 93 1 95 rfl, fun I L => ⟨zx_lis hY 94 20 rfl rfl, zx_lis hY 95 20 rfl rfl, zx_lln hY 94 6 rfl rfl, zx_lln hY 95 6 rfl rfl⟩⟩
  · exact ⟨fun I L => zx_lis hY 96 7 rfl rfl, zx_lrf hY 100 96 0 97 rfl, zx_lrf hY 101 96 1 98 rfl, fun I L => ⟨zx_lis hY 97 20 rfl rfl, zx_lis hY 98 20 rfl rfl, zx_lln hY 97 6 rfl rfl, zx_lln hY 98 6 rfl rfl⟩⟩
  · exact ⟨fun I L => zx_lis hY 99 7 rfl rfl, zx_lrf hY 102 99 0 100 rfl, zx_lrf hY 103 99 1 101 rfl, fun I L => ⟨zx_lis hY 100 20 rfl rfl, zx_lis hY 101 20 rfl rfl, zx_lln hY 100 6 rfl rfl, zx_lln hY 101 6 rfl rfl⟩⟩
  · exact ⟨fun I L => zx_lis hY 102 7 rfl rfl, zx_lrf hY 104 102 0 103 rfl, zx_lrf hY 105 102 1 104 rfl, fun I L => ⟨zx_lis hY 103 20 rfl rfl, zx_lis hY 104 20 rfl rfl, zx_lln hY 103 6 rfl rfl, zx_lln hY 104 6 rfl rfl⟩⟩
  · exact ⟨fun I L => zx_lis hY 105 7 rfl rfl, zx_lrf hY 106 105 0 106 rfl, zx_lrf hY 107 105 1 107 rfl, fun I L => ⟨zx_lis hY 106 20 rfl rfl, zx_lis hY 107 20 rfl rfl, zx_lln hY 106 6 rfl rfl, zx_lln hY 107 6 rfl rfl⟩⟩
  · exact ⟨fun I L => zx_lis hY 108 7 rfl rfl, zx_lrf hY 108 108 0 109 rfl, zx_lrf hY 109 108 1 110 rfl, fun I L => ⟨zx_lis hY 109 20 rfl rfl, zx_lis hY 110 20 rfl rfl, zx_lln hY 109 6 rfl rfl, zx_lln hY 110 6 rfl rfl⟩⟩
  · exact ⟨fun I L => zx_lis hY 111 7 rfl rfl, zx_lrf hY 110 111 0 112 rfl, zx_lrf hY 111 111 1 113 rfl, fun I L => ⟨zx_lis hY 112 20 rfl rfl, zx_lis hY 113 20 rfl rfl, zx_lln hY 112 6 rfl rfl, zx_lln hY 113 6 rfl rfl⟩⟩
  · exact ⟨fun I L => zx_lis hY 114 7 rfl rfl, zx_lrf hY 112 114 0 115 rfl, zx_lrf hY 113 114 1 116 rfl, fun I L => ⟨zx_lis hY 115 20 rfl rfl, zx_lis hY 116 20 rfl rfl, zx_lln hY 115 6 rfl rfl, zx_lln hY 116 6 rfl rfl⟩⟩
theorem zn_rf {Y : zx_Y} (hY : zx_lay Y) {i : Nat} (hi : i < 6) : Y.1 79 i = some (81 + 6 * i) ∧ Y.1 80 i = some (84 + 6 * i) := by
  rcases (show i = 0 ∨ i = 1 ∨ i = 2 ∨ i = 3 ∨ i = 4 ∨ i = 5 by omega) with rfl | rfl | rfl | rfl | rfl | rfl
  · exact ⟨zx_lrf hY 78 79 0 81 rfl, zx_lrf hY 84 80 0 84 rfl⟩
  · exact ⟨zx_lrf hY 79 79 1 87 rfl, zx_lrf hY 85 80 1 90 rfl⟩
  · exact ⟨zx_lrf hY 80 79 2 93 rfl, zx_lrf hY 86 80 2 96 rfl⟩
  · exact ⟨zx_lrf hY 81 79 3 99 rfl, zx_lrf hY 87 80 3 102 rfl⟩
  · exact ⟨zx_lrf hY 82 79 4 105 rfl, zx_lrf hY 88 80 4 108 rfl⟩
  · exact ⟨zx_lrf hY 83 79 5 111 rfl, zx_lrf hY 89 80 5 114 rfl⟩
theorem zn_an {Y : zx_Y} (hY : zx_lay Y) {i : Nat} (hi : i < 6) : zn_cell Y (81 + 6 * i) := by have := zn_pc hY (i := 2 * i) (by omega); rw [show 81 + 3 * (2 * i) = 81 + 6 * i by omega] at this; exact this
theorem zn_he {Y : zx_Y} (hY : zx_lay Y) {i : Nat} (hi : i < 6) : zn_cell Y (84 + 6 * i) := by have := zn_pc hY (i := 2 * i + 1) (by omega); rw [show 81 + 3 * (2 * i + 1) = 84 + 6 * i by omega] at this; exact this
/-- the price row that is in use -/
theorem zn_lay5 {Y : zx_Y} (hY : zx_lay Y) (j : Nat) : zx_lay (zx_u2 Y.1 76 5 (some j), Y.2) := zx_lpr hY 76 5 j (by decide)
def zn_P (I : Nat → Nat → Int32) (p : Nat) (pr : Nat → Nat) (xs : List Nat) : Prop := I p 2 = nI xs.length ∧ ∀ j, j < xs.length → I (p + 1) j = nI (zn_c pr (xs.getD j 0)) ∧ I (p + 2) j = nI (xs.getD j 0)
theorem zn_P_cong {I J : Nat → Nat → Int32} {p : Nat} {pr : Nat → Nat} {xs : List Nat} (h : zn_P I p pr xs) (hl : xs.length ≤ 6) (hf : ∀ a k, zy_in [(p, 2, 3), (p + 1, 0, 6), (p + 2, 0, 6)] a k → J a k = I a k) : zn_P J p pr xs := by
  refine ⟨?_, fun j hj => ?_⟩
  · rw [hf p 2 (zy_in_at 0 p 2 3 2 rfl (by omega) (by omega))]; exact h.1
  · rw [hf (p + 1) j (zy_in_at 1 (p + 1) 0 6 j rfl (by omega) (by omega)), hf (p + 2) j (zy_in_at 2 (p + 2) 0 6 j rfl (by omega) (by omega))]; exact h.2 j hj
def zn_pl (κ : Nat → Nat) (s : Nat) : List Nat → Nat
  | [] => 0
  | x :: xs => if κ x ≤ κ s then zn_pl κ s xs + 1 else 0
theorem zn_pl_le {κ : Nat → Nat} {s : Nat} : ∀ xs : List Nat, zn_pl κ s xs ≤ xs.length
  | [] => Nat.le_refl _
  | x :: xs => by
    rw [zn_pl, List.length_cons]
    have := zn_pl_le (κ := κ) (s := s) xs
    split <;> omega
theorem zn_pl_iff {κ : Nat → Nat} {s : Nat} : ∀ (xs : List Nat), xs.Pairwise (fun a b => κ a < κ b) → ∀ k, k < xs.length → (κ (xs.getD k 0) ≤ κ s ↔ k < zn_pl κ s xs)
  | [], _, k, hk => absurd hk (Nat.not_lt_zero _)
  | x :: xs, hs, k, hk => by
    rw [List.pairwise_cons] at hs
    rw [zn_pl]
    cases k with
    | zero =>
      rw [List.getD_cons_zero]
      split
      · rename_i h; exact ⟨fun _ => by omega, fun _ => h⟩
      · rename_i h; exact ⟨fun q => absurd q h, fun q => by omega⟩
    | succ k =>
      rw [List.getD_cons_succ]
      rw [List.length_cons] at hk
      have ih := zn_pl_iff (s := s) xs hs.2 k (by omega)
      split
      · rw [ih]; omega
      · rename_i h
        have hm : xs.getD k 0 ∈ xs := by
          rw [List.getD_eq_getElem?_getD, List.getElem?_eq_getElem (by omega)]
          exact List.getElem_mem _
        have := hs.1 _ hm
        exact ⟨fun q => by omega, fun q => by omega⟩
theorem zn_ins_at {κ : Nat → Nat} {s : Nat} : ∀ (xs : List Nat) (k : Nat), (zn_ins κ s xs).getD k 0 = if k < zn_pl κ s xs then xs.getD k 0 else if k = zn_pl κ s xs then s else xs.getD (k - 1) 0
  | [], k => by
    rw [zn_ins, zn_pl]
    cases k with
    | zero => rfl
    | succ k => rw [if_neg (by omega), if_neg (by omega)]; rfl
  | x :: xs, k => by
    rw [zn_ins, zn_pl]
    split
    · cases k with
      | zero => rw [if_pos (by omega)]; rfl
      | succ k =>
        rw [List.getD_cons_succ, zn_ins_at xs k]
        by_cases h1 : k < zn_pl κ s xs
        · rw [if_pos h1, if_pos (by omega), List.getD_cons_succ]
        · rw [if_neg h1, if_neg (show ¬ k + 1 < zn_pl κ s xs + 1 by omega)]
          by_cases h2 : k = zn_pl κ s xs
          · rw [if_pos h2, if_pos (show k + 1 = zn_pl κ s xs + 1 by omega)]
          · rw [if_neg h2, if_neg (show ¬ k + 1 = zn_pl κ s xs + 1 by omega)]
            obtain ⟨m, rfl⟩ : ∃ m, k = m + 1 := ⟨k - 1, by omega⟩
            rw [show m + 1 + 1 - 1 = m + 1 by omega, List.getD_cons_succ]
            rfl
    · cases k with
      | zero => rw [if_neg (by omega), if_pos rfl]; rfl
      | succ k => rw [if_neg (by omega), if_neg (by omega), List.getD_cons_succ]; rfl
theorem zn_take_at {xs : List Nat} {n k : Nat} (h : k < n) : (xs.take n).getD k 0 = xs.getD k 0 := by
  rw [List.getD_eq_getElem?_getD, List.getElem?_take_of_lt h, List.getD_eq_getElem?_getD]
theorem zn_add_ok {κ : Nat → Nat} {L e : Nat} {xs : List Nat} (hs : xs.Pairwise (fun a b => κ a < κ b)) (hn : ∀ x ∈ xs, κ x ≠ κ e) : (zn_add κ L e xs).Pairwise (fun a b => κ a < κ b) ∧ (zn_add κ L e xs).length ≤ L ∧ ∀ y ∈ zn_add κ L e xs, y = e ∨ y ∈ xs := by
  unfold zn_add
  refine ⟨List.Pairwise.sublist (List.take_sublist _ _) (zn_ins_srt xs hs hn), by rw [List.length_take]; omega, fun y hy => (zn_ins_mem xs).mp (List.mem_of_mem_take hy)⟩
section YPk
variable {l : Launch} {E : zx_E} {d : Nat} {I : Nat → Nat → Int32} {L : Nat → Nat → Int64} {Y : zx_Y} {Qo : Option Value → zx_M → Prop} {Q : Int32 → zx_M → Prop} {Qv : zx_M → Prop} {pr : Nat → Nat}
theorem zy_c75 (hY : zx_lay Y) {p Lm : Nat} (hp : zn_cell Y p) (hL : Lm ≤ 6) (hq : ∀ J, zy_fr [(p, 2, 4)] I J → J p 2 = 0 → J p 3 = nI Lm → Qv (J, L, Y)) : zx_Cv l E (d + 1) 75 [.ref p, .int (nI Lm)] (I, L, Y) Qv := by
  refine sg_75_0 hY _ _ ⟨hp.1 _ _, hp.1 _ _, rfl, ?_⟩
  have e : (if (6 : Int32) < nI Lm then (6 : Int32) else nI Lm) = nI Lm := if_neg (fun q => by have := (nI_ltI (a := 6) (by omega) (by omega)).mp q; omega)
  rw [e]
  exact hq _ (zy_fr_u2 (zy_fr_u2 (zy_fr_rf _ _) (zy_in_at 0 p 2 4 2 rfl (by omega) (by omega))) (zy_in_at 0 p 2 4 3 rfl (by omega) (by omega))) (by rw [zy_u2_nk (by omega), zy_u2_self]) (by rw [zy_u2_self])
def zn_sh (I : Nat → Nat → Int32) (p m j : Nat) : Nat → Nat → Int32 := fun a k => if (a = p + 1 ∨ a = p + 2) ∧ j < k ∧ k ≤ m then I a (k - 1) else I a k
theorem zy_c76 (hY : zx_lay Y) {p Lm e : Nat} {xs : List Nat} (hp : zn_cell Y p) (hL : Lm ≤ 6) (hlen : xs.length ≤ Lm) (h3 : I p 3 = nI Lm) (hP : zn_P I p pr xs) (hs : xs.Pairwise (fun a b => zn_k pr a < zn_k pr b)) (hx : ∀ x ∈ xs, x < 16807 ∧ zn_c pr x < 2 ^ 30) (he : e < 16807 ∧ zn_c pr e < 2 ^ 30) (hr : ∀ x ∈ xs, zn_c pr x = zn_c pr e → x < e)
    (hq : ∀ J, zy_fr [(p, 2, 3), (p + 1, 0, 6), (p + 2, 0, 6)] I J → zn_P J p pr (zn_add (zn_k pr) Lm e xs) → Qv (J, L, Y)) : zx_Cv l E (d + 1) 76 [.ref p, .int (nI (zn_c pr e)), .int (nI e)] (I, L, Y) Qv := by
  obtain ⟨c1, c2, c3, c4⟩ := hp
  have gm : ∀ k, k < xs.length → xs.getD k 0 ∈ xs := fun k hk => by rw [List.getD_eq_getElem?_getD, List.getElem?_eq_getElem hk]; exact List.getElem_mem _
  have hple := zn_pl_le (κ := zn_k pr) (s := e) xs
  have cst : ∀ k, k < xs.length → (zn_c pr (xs.getD k 0) ≤ zn_c pr e ↔ k < zn_pl (zn_k pr) e xs) := fun k hk => by
    rw [← zn_pl_iff xs hs k hk]
    have hxk := hx _ (gm k hk)
    have hrk := hr _ (gm k hk)
    constructor
    · intro h
      by_cases z : zn_c pr (xs.getD k 0) = zn_c pr e
      · exact zn_k_le (by omega) (hrk z)
      · exact Nat.le_of_lt (zn_k_lt hxk.1 (by omega))
    · intro h
      by_cases z : zn_c pr (xs.getD k 0) ≤ zn_c pr e
      · exact z
      · have := zn_k_lt (pr := pr) (a := e) (b := xs.getD k 0) he.1 (by omega)
        omega
  generalize hpl : zn_pl (zn_k pr) e xs = pl at *
  -- shifting, then the place
  have shift : ∀ (I2 : Nat → Nat → Int32) (m : Nat), m < 6 → (zy_fr [(p, 2, 3)] I I2) → I2 p 2 = nI (m + 1) → (zn_add (zn_k pr) Lm e xs).length = m + 1 → m ≤ xs.length → pl ≤ m → ∀ n j, pl + n = j → j ≤ m → zx_To l E (d + 1) 76 70 [some (.ref p), some (.int (nI (zn_c pr e))), some (.int (nI e)), some (.int (nI pl)), some (.int (nI j))] [] (zn_sh I2 p m j, L, Y) (fun r M' => r = none ∧ Qv M') := by
    intro I2 m hm hf2 h22 hlen2 hmx hplm n
    induction n with
    | zero =>
      intro j hj hjm
      have ej : j = pl := by omega
      subst ej
      refine sg_76_70 hY _ _ _ _ _ ⟨fun _ => ⟨c1 _ _, p + 1, c2, (c4 _ _).1, ?_, c1 _ _, p + 2, c3, (c4 _ _).2.1, ?_, rfl, ?_⟩, fun h => absurd (nI_le (Nat.le_refl _) (by omega)) h⟩
      · rw [(c4 _ _).2.2.1]; exact vp_in_nI (by omega) (by omega)
      · rw [(c4 _ _).2.2.2]; exact vp_in_nI (by omega) (by omega)
      · rw [nI_clamp (by omega)]
        refine hq _ (fun a k hk => ?_) ⟨?_, fun k hk => ?_⟩
        · have n1 : ¬ (a = p + 1 ∧ k < 6) := fun q => hk (by rw [q.1]; exact zy_in_at 1 (p + 1) 0 6 k rfl (by omega) q.2)
          have n2 : ¬ (a = p + 2 ∧ k < 6) := fun q => hk (by rw [q.1]; exact zy_in_at 2 (p + 2) 0 6 k rfl (by omega) q.2)
          have n3 : ¬ (a = p ∧ k = 2) := fun q => hk (by rw [q.1, q.2]; exact zy_in_at 0 p 2 3 2 rfl (by omega) (by omega))
          rw [zy_u2_ne (by omega), zy_u2_ne (by omega)]
          unfold zn_sh
          rw [if_neg (by omega)]
          exact hf2 a k (fun ⟨w, hw, e1, e2, e3⟩ => by
            rw [List.mem_singleton] at hw
            subst hw
            exact n3 ⟨e1.symm, by simp at e2 e3; omega⟩)
        · rw [zy_u2_na (by omega), zy_u2_na (by omega)]
          unfold zn_sh
          rw [if_neg (by omega), h22, hlen2]
        · rw [hlen2] at hk
          have hadd : (zn_add (zn_k pr) Lm e xs).getD k 0 = if k < j then xs.getD k 0 else if k = j then e else xs.getD (k - 1) 0 := by
            unfold zn_add at hlen2 ⊢
            rw [List.length_take] at hlen2
            rw [zn_take_at (by omega), zn_ins_at, hpl]
          have f1 : ∀ a k, a ≠ p → I2 a k = I a k := fun a k ha => hf2 a k (fun ⟨w, hw, e1, _⟩ => by
            rw [List.mem_singleton] at hw
            subst hw
            exact ha e1.symm)
          rw [hadd, zy_u2_na (a := p + 1) (i := p + 2) (by omega)]
          by_cases z1 : k = j
          · subst z1
            rw [if_neg (by omega), if_pos rfl, zy_u2_self, zy_u2_self]; exact ⟨rfl, rfl⟩
          · rw [zy_u2_nk z1, zy_u2_nk z1, zy_u2_na (by omega)]
            by_cases z2 : k < j
            · rw [if_pos z2]
              unfold zn_sh
              rw [if_neg (by omega), if_neg (by omega), f1 _ _ (by omega), f1 _ _ (by omega)]
              exact hP.2 k (by omega)
            · rw [if_neg z2, if_neg z1]
              unfold zn_sh
              rw [if_pos ⟨Or.inl rfl, by omega, by omega⟩, if_pos ⟨Or.inr rfl, by omega, by omega⟩, f1 _ _ (by omega), f1 _ _ (by omega)]
              exact hP.2 (k - 1) (by omega)
    | succ n ih =>
      intro j hj hjm
      obtain ⟨j', rfl⟩ : ∃ j', j = j' + 1 := ⟨j - 1, by omega⟩
      refine sg_76_70 hY _ _ _ _ _ ⟨fun h => absurd ((nI_leI (by omega) (by omega)).mp h) (by omega), fun _ => ⟨c1 _ _, p + 1, c2, c1 _ _, p + 1, c2, Or.inl (c4 _ _).1, ?_, (c4 _ _).1, ?_, c1 _ _, p + 2, c3, c1 _ _, p + 2, c3, Or.inl (c4 _ _).2.1, ?_, (c4 _ _).2.1, ?_, ?_⟩⟩
      · rw [(c4 _ _).2.2.1, nI_pred]; exact vp_in_nI (by omega) (by omega)
      · rw [(c4 _ _).2.2.1]; exact vp_in_nI (by omega) (by omega)
      · rw [(c4 _ _).2.2.2, nI_pred]; exact vp_in_nI (by omega) (by omega)
      · rw [(c4 _ _).2.2.2]; exact vp_in_nI (by omega) (by omega)
      · rw [nI_pred, zy_m1, nI_clamp (by omega), nI_clamp (by omega)]
        have es : zx_u2 (zx_u2 (zn_sh I2 p m (j' + 1)) (p + 1) (j' + 1) (zn_sh I2 p m (j' + 1) (p + 1) j')) (p + 2) (j' + 1) (zx_u2 (zn_sh I2 p m (j' + 1)) (p + 1) (j' + 1) (zn_sh I2 p m (j' + 1) (p + 1) j') (p + 2) j') = zn_sh I2 p m j' := by
          funext a k
          rw [zy_u2_na (a := p + 2) (i := p + 1) (by omega)]
          by_cases z1 : a = p + 2 ∧ k = j' + 1
          · rw [z1.1, z1.2, zy_u2_self]
            unfold zn_sh
            rw [if_neg (by omega), if_pos ⟨Or.inr rfl, by omega, by omega⟩]; rfl
          · rw [zy_u2_ne z1]
            by_cases z2 : a = p + 1 ∧ k = j' + 1
            · rw [z2.1, z2.2, zy_u2_self]
              unfold zn_sh
              rw [if_neg (by omega), if_pos ⟨Or.inl rfl, by omega, by omega⟩]; rfl
            · rw [zy_u2_ne z2]
              unfold zn_sh
              by_cases z3 : (a = p + 1 ∨ a = p + 2) ∧ j' < k ∧ k ≤ m
              · rw [if_pos z3, if_pos (by omega)]
              · rw [if_neg z3, if_neg (by omega)]
        rw [es]
        exact ih j' (by omega) (by omega)
  have loop : ∀ n i, n + i = xs.length → zx_To l E (d + 1) 76 5 [some (.ref p), some (.int (nI (zn_c pr e))), some (.int (nI e)), some (.int (nI (min i pl))), some (.int (nI i))] [] (I, L, Y) (fun r M' => r = none ∧ Qv M') := by
    intro n
    induction n with
    | zero =>
      intro i hi
      have ei : i = xs.length := by omega
      subst ei
      rw [show min xs.length pl = pl by omega]
      refine sg_76_5 hY _ _ _ _ _ ⟨c1 _ _, fun _ => ⟨c1 _ _, fun h => ?_, fun h => ⟨rfl, ?_⟩⟩, fun h => absurd (by rw [hP.1]; exact nI_le (Nat.le_refl _) (by omega)) h⟩
      · rw [h3, nI_ltI (by omega) (by omega)] at h
        have esz : (if I p 3 < I p 2 + 1 then I p 3 else I p 2 + 1) = nI (min (xs.length + 1) Lm) := by
          rw [h3, hP.1, nI_1]
          by_cases z : Lm < xs.length + 1
          · rw [if_pos ((nI_ltI (by omega) (by omega)).mpr z), show min (xs.length + 1) Lm = Lm by omega]
          · rw [if_neg (fun q => z ((nI_ltI (by omega) (by omega)).mp q)), show min (xs.length + 1) Lm = xs.length + 1 by omega]
        rw [esz, zy_u2_self]
        obtain ⟨m, hm⟩ : ∃ m, min (xs.length + 1) Lm = m + 1 := ⟨min (xs.length + 1) Lm - 1, by omega⟩
        rw [hm, nI_pred]
        refine ⟨c1 _ _, c1 _ _, c1 _ _, c1 _ _, ?_⟩
        have s0 : zn_sh (zx_u2 I p 2 (nI (m + 1))) p m m = zx_u2 I p 2 (nI (m + 1)) := by funext a k; unfold zn_sh; rw [if_neg (by omega)]
        have := shift (zx_u2 I p 2 (nI (m + 1))) m (by omega) (zy_fr_u2 (zy_fr_rf _ _) (zy_in_at 0 p 2 3 2 rfl (by omega) (by omega))) zy_u2_self (by unfold zn_add; rw [List.length_take, zn_ins_len]; omega) (by omega) (by omega) (m - pl) m (by omega) (Nat.le_refl _)
        rw [s0] at this
        exact this
      · rw [h3, nI_ltI (by omega) (by omega)] at h
        have eadd : zn_add (zn_k pr) Lm e xs = xs := by
          unfold zn_add
          have hl1 : ((zn_ins (zn_k pr) e xs).take Lm).length = xs.length := by rw [List.length_take, zn_ins_len]; omega
          refine List.ext_getElem hl1 (fun k h1 h2 => ?_)
          have g1 : ((zn_ins (zn_k pr) e xs).take Lm).getD k 0 = xs.getD k 0 := by rw [zn_take_at (by omega), zn_ins_at, hpl, if_pos (by omega)]
          rw [List.getD_eq_getElem?_getD, List.getElem?_eq_getElem h1, List.getD_eq_getElem?_getD, List.getElem?_eq_getElem h2] at g1
          exact g1
        exact hq I (zy_fr_rf _ _) (by rw [eadd]; exact hP)
    | succ n ih =>
      intro i hi
      have hil : i < xs.length := by omega
      have next := ih (i + 1) (by omega)
      refine sg_76_5 hY _ _ _ _ _ ⟨c1 _ _, fun h => ?_, fun _ => ⟨c1 _ _, p + 1, c2, Or.inl (c4 _ _).1, ?_, ?_⟩⟩
      · rw [hP.1] at h
        exact absurd ((nI_leI (by omega) (by omega)).mp h) (by omega)
      · rw [(c4 _ _).2.2.1]; exact vp_in_nI (by omega) (by omega)
      · have hck := (hx _ (gm i hil)).2
        rw [nI_clamp (by omega), (hP.2 i hil).1, nI_ltI (by omega) (by omega), nI_1]
        have hc := cst i hil
        refine ⟨fun h => ?_, fun h => ?_⟩
        · rw [show min (i + 1) pl = min i pl by omega] at next
          exact next
        · rw [show min (i + 1) pl = i + 1 by omega] at next
          exact next
  have := loop xs.length 0 (by omega)
  rw [Nat.zero_min] at this
  exact sg_76_0 hY _ _ _ this
end YPk
