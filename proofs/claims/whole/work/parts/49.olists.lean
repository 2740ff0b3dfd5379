/-! ===== orders: lists of names by rising codes ===== -/
def zo_pl (c : Nat) : List Nat → Nat
  | [] => 0
  | x :: xs => if x < c then zo_pl c xs + 1 else 0
def zo_in (c : Nat) : List Nat → List Nat
  | [] => [c]
  | x :: xs => if x < c then x :: zo_in c xs else c :: x :: xs
def zo_ins (c : Nat) (xs : List Nat) : List Nat := if xs.contains c then xs else zo_in c xs
def zo_wr (I : Nat → Nat → Int32) (r : Nat) (xs : List Nat) : Nat → Nat → Int32 := fun a k => if a = r ∧ k < xs.length then nI (xs.getD k 0) else I a k
theorem zo_wr_nil {I : Nat → Nat → Int32} {r : Nat} : zo_wr I r [] = I := by
  funext a k; unfold zo_wr; rw [if_neg (by simp)]
theorem zo_wr_el {I : Nat → Nat → Int32} {r : Nat} {xs : List Nat} {a k : Nat} (h : a ≠ r) : zo_wr I r xs a k = I a k := by unfold zo_wr; rw [if_neg (fun q => h q.1)]
theorem zo_wr_at {I : Nat → Nat → Int32} {r : Nat} {xs : List Nat} {k : Nat} (h : k < xs.length) : zo_wr I r xs r k = nI (xs.getD k 0) := by unfold zo_wr; rw [if_pos ⟨rfl, h⟩]
theorem zo_wr_fr {I : Nat → Nat → Int32} {r : Nat} {xs : List Nat} (h : xs.length ≤ 10) : zy_fr [(r, 0, 10)] I (zo_wr I r xs) := fun a k hk => by
  unfold zo_wr
  rw [if_neg (fun q => hk (by rw [q.1]; exact zy_in_at 0 r 0 10 k rfl (by omega) (by omega)))]
theorem zo_pl_le (c : Nat) : ∀ xs : List Nat, zo_pl c xs ≤ xs.length
  | [] => Nat.le_refl _
  | x :: xs => by
    rw [zo_pl]
    have := zo_pl_le c xs
    split
    · rw [List.length_cons]; omega
    · omega
theorem zo_pl_iff {c : Nat} : ∀ (xs : List Nat), xs.Pairwise (· < ·) → ∀ k, k < xs.length → (xs.getD k 0 < c ↔ k < zo_pl c xs)
  | [], _, k, hk => absurd hk (Nat.not_lt_zero _)
  | x :: xs, hs, k, hk => by
    rw [List.pairwise_cons] at hs
    rw [zo_pl]
    cases k with
    | zero =>
      rw [List.getD_cons_zero]
      split
      · rename_i h; exact ⟨fun _ => by omega, fun _ => h⟩
      · rename_i h; exact ⟨fun q => absurd q h, fun q => by omega⟩
    | succ k =>
      rw [List.getD_cons_succ]
      rw [List.length_cons] at hk
      have ih := zo_pl_iff (c := c) xs hs.2 k (by omega)
      split
      · rw [ih]; omega
      · rename_i h
        have hm : xs.getD k 0 ∈ xs := by
          rw [List.getD_eq_getElem?_getD, List.getElem?_eq_getElem (by omega)]
          exact List.getElem_mem _
        have := hs.1 _ hm
        exact ⟨fun q => by omega, fun q => by omega⟩
theorem zo_in_len (c : Nat) : ∀ xs : List Nat, (zo_in c xs).length = xs.length + 1
  | [] => rfl
  | x :: xs => by
    rw [zo_in]
    split
    · rw [List.length_cons, zo_in_len c xs, List.length_cons]
    · rfl
theorem zo_in_mem {c y : Nat} : ∀ xs : List Nat, y ∈ zo_in c xs ↔ y = c ∨ y ∈ xs
  | [] => by rw [zo_in]; simp
  | x :: xs => by
    rw [zo_in]
    split
    · rw [List.mem_cons, zo_in_mem xs, List.mem_cons]
      constructor
      · rintro (h | h | h)
        · exact Or.inr (Or.inl h)
        · exact Or.inl h
        · exact Or.inr (Or.inr h)
      · rintro (h | h | h)
        · exact Or.inr (Or.inl h)
        · exact Or.inl h
        · exact Or.inr (Or.inr h)
    · rw [List.mem_cons]
theorem zo_in_srt {c : Nat} : ∀ xs : List Nat, xs.Pairwise (· < ·) → c ∉ xs → (zo_in c xs).Pairwise (· < ·)
  | [], _, _ => by rw [zo_in]; simp
  | x :: xs, hs, hc => by
    rw [List.pairwise_cons] at hs
    rw [List.mem_cons] at hc
    rw [zo_in]
    split
    · rename_i h
      rw [List.pairwise_cons]
      refine ⟨fun y hy => ?_, zo_in_srt xs hs.2 (fun q => hc (Or.inr q))⟩
      rcases (zo_in_mem xs).mp hy with rfl | hy
      · exact h
      · exact hs.1 y hy
    · rename_i h
      have hlt : c < x := by
        have : c ≠ x := fun q => hc (Or.inl q)
        omega
      rw [List.pairwise_cons]
      refine ⟨fun y hy => ?_, List.pairwise_cons.mpr hs⟩
      rcases List.mem_cons.mp hy with rfl | hy
      · exact hlt
      · exact Nat.lt_trans hlt (hs.1 y hy)
theorem zo_in_at {c : Nat} : ∀ (xs : List Nat) (k : Nat), (zo_in c xs).getD k 0 = if k < zo_pl c xs then xs.getD k 0 else if k = zo_pl c xs then c else xs.getD (k - 1) 0
  | [], k => by
    rw [zo_in, zo_pl]
    cases k with
    | zero => rfl
    | succ k => rw [if_neg (by omega), if_neg (by omega)]; rfl
  | x :: xs, k => by
    rw [zo_in, zo_pl]
    split
    · cases k with
      | zero => rw [if_pos (by omega)]; rfl
      | succ k =>
        rw [List.getD_cons_succ, zo_in_at xs k]
        by_cases h1 : k < zo_pl c xs
        · rw [if_pos h1, if_pos (by omega), List.getD_cons_succ]
        · rw [if_neg h1, if_neg (show ¬ k + 1 < zo_pl c xs + 1 by omega)]
          by_cases h2 : k = zo_pl c xs
          · rw [if_pos h2, if_pos (show k + 1 = zo_pl c xs + 1 by omega)]
          · rw [if_neg h2, if_neg (show ¬ k + 1 = zo_pl c xs + 1 by omega)]
            obtain ⟨m, rfl⟩ : ∃ m, k = m + 1 := ⟨k - 1, by omega⟩
            rw [show m + 1 + 1 - 1 = m + 1 by omega, List.getD_cons_succ]
            rfl
    · cases k with
      | zero => rw [if_neg (by omega), if_pos rfl]; rfl
      | succ k => rw [if_neg (by omega), if_neg (by omega), List.getD_cons_succ]; rfl
theorem zo_ins_srt {c : Nat} {xs : List Nat} (hs : xs.Pairwise (· < ·)) : (zo_ins c xs).Pairwise (· < ·) := by
  unfold zo_ins
  split
  · exact hs
  · rename_i h
    exact zo_in_srt xs hs (fun q => h (by simpa using q))
theorem zo_ins_mem {c y : Nat} {xs : List Nat} : y ∈ zo_ins c xs ↔ y = c ∨ y ∈ xs := by
  unfold zo_ins
  split
  · rename_i h
    have h : c ∈ xs := by simpa using h
    exact ⟨Or.inr, fun q => by rcases q with rfl | q; exact h; exact q⟩
  · exact zo_in_mem xs
theorem zo_ins_len {c : Nat} {xs : List Nat} : (zo_ins c xs).length ≤ xs.length + 1 ∧ 0 < (zo_ins c xs).length := by
  unfold zo_ins
  split
  · rename_i h
    have h : c ∈ xs := by simpa using h
    exact ⟨by omega, List.length_pos_of_mem h⟩
  · rw [zo_in_len]; omega
/-- names that begin with s, of the first i people -/
def zo_lst (f : Nat → Nat) (s : Nat) : Nat → List Nat
  | 0 => []
  | i + 1 => if zy_bg f s i then zo_ins (f i) (zo_lst f s i) else zo_lst f s i
theorem zo_lst_ok {f : Nat → Nat} {s : Nat} : ∀ i, (zo_lst f s i).Pairwise (· < ·) ∧ (zo_lst f s i).length ≤ i ∧ ∀ y, y ∈ zo_lst f s i ↔ ∃ p, p < i ∧ zy_bg f s p = true ∧ f p = y
  | 0 => ⟨List.Pairwise.nil, Nat.le_refl _, fun y => ⟨fun h => by simp [zo_lst] at h, fun ⟨p, hp, _⟩ => by omega⟩⟩
  | i + 1 => by
    obtain ⟨h1, h2, h3⟩ := zo_lst_ok (f := f) (s := s) i
    rw [zo_lst]
    split
    · rename_i hb
      refine ⟨zo_ins_srt h1, ?_, fun y => ?_⟩
      · have := (zo_ins_len (c := f i) (xs := zo_lst f s i)).1; omega
      · rw [zo_ins_mem, h3]
        constructor
        · rintro (rfl | ⟨p, a, b, c⟩)
          · exact ⟨i, by omega, hb, rfl⟩
          · exact ⟨p, by omega, b, c⟩
        · rintro ⟨p, a, b, c⟩
          by_cases e : p = i
          · subst e; exact Or.inl c.symm
          · exact Or.inr ⟨p, by omega, b, c⟩
    · rename_i hb
      refine ⟨h1, by omega, fun y => ?_⟩
      rw [h3]
      constructor
      · rintro ⟨p, a, b, c⟩; exact ⟨p, by omega, b, c⟩
      · rintro ⟨p, a, b, c⟩
        by_cases e : p = i
        · subst e; exact absurd b hb
        · exact ⟨p, by omega, b, c⟩
theorem zo_lst_ext {f : Nat → Nat} {s P : Nat} : ∀ n, P ≤ n → (∀ p, P ≤ p → p < n → zy_bg f s p = false) → zo_lst f s n = zo_lst f s P
  | 0, h, _ => by rw [show P = 0 by omega]
  | n + 1, h, hb => by
    by_cases e : P = n + 1
    · rw [e]
    · rw [zo_lst, hb n (by omega) (by omega)]
      exact zo_lst_ext n (by omega) (fun p a b => hb p a (by omega))
section YLs
variable {l : Launch} {E : zx_E} {d : Nat} {I : Nat → Nat → Int32} {L : Nat → Nat → Int64} {Y : zx_Y} {Qo : Option Value → zx_M → Prop} {Q : Int32 → zx_M → Prop} {Qv : zx_M → Prop}
def zo_sh (I : Nat → Nat → Int32) (m j : Nat) : Nat → Nat → Int32 := fun a k => if a = 21 ∧ j < k ∧ k ≤ m then I 21 (k - 1) else I a k
theorem zy_c71 (hY : zx_lay Y) {xs : List Nat} {c : Nat} (hl : xs.length < 10) (hs : xs.Pairwise (· < ·)) (hx : ∀ x ∈ xs, x < 5764801) (hc : c < 5764801) (hq : Q (nI (zo_ins c xs).length) (zo_wr I 21 (zo_ins c xs), L, Y)) : zx_Ci l E d 71 [.ref 17, .int (nI c), .int (nI xs.length)] (zo_wr I 21 xs, L, Y) Q := by
  have hg : ∀ k, k < xs.length → xs.getD k 0 < 5764801 := fun k hk => hx _ (by rw [List.getD_eq_getElem?_getD, List.getElem?_eq_getElem hk]; exact List.getElem_mem _)
  have hple := zo_pl_le c xs
  -- shifting
  have shift : c ∉ xs → ∀ n j, zo_pl c xs + n = j → j ≤ xs.length → zx_To l E d 71 70 [some (.ref 17), some (.int (nI c)), some (.int (nI xs.length)), some (.int (nI (zo_pl c xs))), some (.int (nI j))] [] (zo_sh (zo_wr I 21 xs) xs.length j, L, Y) (fun r M' => ∃ v, r = some (.int v) ∧ Q v M') := by
    intro hnc n
    have e1 : zo_ins c xs = zo_in c xs := by unfold zo_ins; rw [if_neg (by simpa using hnc)]
    induction n with
    | zero =>
      intro j hj hjl
      have ej : j = zo_pl c xs := by omega
      subst ej
      refine sg_71_70 hY _ _ _ _ ⟨fun _ => ?_, fun h => absurd (nI_le (Nat.le_refl _) (by omega)) h⟩
      rw [nI_clamp (by omega), nI_1]
      refine ⟨vp_in_nI (by omega) (by omega), _, rfl, ?_⟩
      rw [e1, zo_in_len] at hq
      have e2 : zx_u2 (zo_sh (zo_wr I 21 xs) xs.length (zo_pl c xs)) 21 (zo_pl c xs) (nI c) = zo_wr I 21 (zo_in c xs) := by
        funext a k
        by_cases ha : a = 21
        · subst ha
          by_cases hk : k < xs.length + 1
          · rw [zo_wr_at (by rw [zo_in_len]; exact hk), zo_in_at]
            by_cases h1 : k = zo_pl c xs
            · subst h1; rw [zy_u2_self, if_neg (by omega), if_pos rfl]
            · rw [zy_u2_nk h1]
              unfold zo_sh
              by_cases h2 : k < zo_pl c xs
              · rw [if_neg (by omega), if_pos h2, zo_wr_at (by omega)]
              · rw [if_pos (by omega), if_neg h2, if_neg h1, zo_wr_at (by omega)]
          · rw [zy_u2_nk (by omega)]
            unfold zo_sh zo_wr
            rw [if_neg (by omega), if_neg (by omega), if_neg (by rw [zo_in_len]; omega)]
        · rw [zy_u2_na ha]
          unfold zo_sh
          rw [if_neg (by omega), zo_wr_el ha, zo_wr_el ha]
      rw [e2]
      exact hq
    | succ n ih =>
      intro j hj hjl
      refine sg_71_70 hY _ _ _ _ ⟨fun h => absurd ((nI_leI (by omega) (by omega)).mp h) (by omega), fun _ => ?_⟩
      obtain ⟨j', rfl⟩ : ∃ j', j = j' + 1 := ⟨j - 1, by omega⟩
      rw [nI_pred, zy_m1, nI_clamp (by omega), nI_clamp (by omega)]
      refine ⟨vp_in_nI (by omega) (by omega), vp_in_nI (by omega) (by omega), ?_⟩
      have e2 : zx_u2 (zo_sh (zo_wr I 21 xs) xs.length (j' + 1)) 21 (j' + 1) (zo_sh (zo_wr I 21 xs) xs.length (j' + 1) 21 j') = zo_sh (zo_wr I 21 xs) xs.length j' := by
        funext a k
        by_cases h : a = 21 ∧ k = j' + 1
        · rw [h.1, h.2, zy_u2_self]
          unfold zo_sh
          rw [if_neg (by omega), if_pos (by omega)]; rfl
        · rw [zy_u2_ne h]
          unfold zo_sh
          by_cases h2 : a = 21 ∧ j' < k ∧ k ≤ xs.length
          · rw [if_pos h2, if_pos (by omega)]
          · rw [if_neg h2, if_neg (by omega)]
      rw [e2]
      exact ih j' (by omega) (by omega)
  have sh0 : zo_sh (zo_wr I 21 xs) xs.length xs.length = zo_wr I 21 xs := by
    funext a k; unfold zo_sh; rw [if_neg (by omega)]
  -- where it stands
  have loop : ∀ n i, n + i = xs.length → (∀ k, k < i → xs.getD k 0 ≠ c) → zx_To l E d 71 5 [some (.ref 17), some (.int (nI c)), some (.int (nI xs.length)), some (.int (nI (min i (zo_pl c xs)))), some (.int (nI i))] [] (zo_wr I 21 xs, L, Y) (fun r M' => ∃ v, r = some (.int v) ∧ Q v M') := by
    intro n
    induction n with
    | zero =>
      intro i hi hne
      have hnc : c ∉ xs := fun q => by
        obtain ⟨k, hk, e⟩ := List.getElem_of_mem q
        refine hne k (by omega) ?_
        rw [List.getD_eq_getElem?_getD, List.getElem?_eq_getElem hk, e]; rfl
      have ei : i = xs.length := by omega
      subst ei
      refine sg_71_5 hY _ _ _ _ ⟨fun _ => ⟨fun h => absurd ((zy_10 (by omega)).mp h) (by omega), fun _ => ⟨fun _ => ?_, fun h => absurd (show nI (min xs.length (zo_pl c xs)) < 10 from (nI_ltI (b := 10) (by omega) (by omega)).mpr (by omega)) h⟩⟩, fun h => absurd (nI_le (Nat.le_refl _) (by omega)) h⟩
      have := shift hnc (xs.length - zo_pl c xs) xs.length (by omega) (Nat.le_refl _)
      rw [sh0] at this
      rw [show min xs.length (zo_pl c xs) = zo_pl c xs by omega]
      exact this
    | succ n ih =>
      intro i hi hne
      have hil : i < xs.length := by omega
      have hv := vp_in_nI (n := i) (N := 10) (by omega) (by omega)
      refine sg_71_5 hY _ _ _ _ ⟨fun h => absurd ((nI_leI (by omega) (by omega)).mp h) (by omega), fun _ => ⟨fun h => absurd ((zy_10 (by omega)).mp h) (by omega), fun _ => ⟨hv, ?_⟩⟩⟩
      have hgi := hg i hil
      have hpl := zo_pl_iff (c := c) xs hs i hil
      rw [nI_clamp (by omega), zo_wr_at hil, nI_eq (by omega) (by omega), nI_leI (by omega) (by omega), nI_1]
      refine ⟨fun h => ⟨hv, fun h2 => ?_, fun h2 => ?_⟩, fun h => ⟨_, rfl, ?_⟩⟩
      · have := ih (i + 1) (by omega) (fun k hk => by
          by_cases e : k = i
          · subst e; exact h
          · exact hne k (by omega))
        rw [show min (i + 1) (zo_pl c xs) = min i (zo_pl c xs) by omega] at this
        exact this
      · have := ih (i + 1) (by omega) (fun k hk => by
          by_cases e : k = i
          · subst e; exact h
          · exact hne k (by omega))
        rw [show min (i + 1) (zo_pl c xs) = i + 1 by omega] at this
        exact this
      · have hm : c ∈ xs := by
          rw [← h, List.getD_eq_getElem?_getD, List.getElem?_eq_getElem hil]; exact List.getElem_mem _
        have e1 : zo_ins c xs = xs := by unfold zo_ins; rw [if_pos (by simpa using hm)]
        rw [e1] at hq
        exact hq
  have := loop xs.length 0 (by omega) (fun k hk => by omega)
  rw [Nat.zero_min] at this
  exact sg_71_0 hY _ _ this
theorem zy_c70 (hY : zx_lay Y) {f : Nat → Nat} (hn : ∀ p, p < 10 → I 9 p = nI (f p) ∧ f p < 5764801) {s : Nat} (hs : s < 2 ^ 31) (hq : Q (nI (zo_lst f s 10).length) (zo_wr I 21 (zo_lst f s 10), L, Y)) : zx_Ci l E (d + 1) 70 [.ref 17, .int (nI s)] (I, L, Y) Q := by
  have loop : ∀ n i, n + i = 10 → zx_To l E (d + 1) 70 4 [some (.ref 17), some (.int (nI s)), some (.int (nI (zo_lst f s i).length)), some (.int (nI i)), none] [] (zo_wr I 21 (zo_lst f s i), L, Y) (fun r M' => ∃ v, r = some (.int v) ∧ Q v M') := by
    intro n
    induction n with
    | zero =>
      intro i hi
      have ei : i = 10 := by omega
      subst ei
      exact sg_70_4 hY _ _ _ ⟨fun _ => ⟨_, rfl, hq⟩, fun h => absurd (by decide) h⟩
    | succ n ih =>
      intro i hi
      obtain ⟨h1, h2⟩ := hn i (by omega)
      obtain ⟨k1, k2, k3⟩ := zo_lst_ok (f := f) (s := s) i
      have hb : zy_bg f s i = (decide (f i ≠ 0) && zy_st (f i) s) := rfl
      have := ih (i + 1) (by omega)
      rw [zo_lst] at this
      refine sg_70_4 hY _ _ _ ⟨fun h => absurd ((zy_10 (by omega)).mp h) (by omega), fun _ => ⟨vp_in_nI (by omega) (by omega), ?_⟩⟩
      rw [nI_clamp (by omega), zo_wr_el (by omega), h1, zy_eq0 (by omega), nI_1]
      refine ⟨fun h => ?_, fun h => zy_162 hY h2 hs ⟨hY, fun h3 => ?_, fun h3 => ?_⟩⟩
      · rw [if_neg (by rw [hb, h]; simp)] at this
        exact this
      · rw [zy_b0] at h3
        rw [if_neg (by rw [hb, h3]; simp)] at this
        exact this
      · rw [zy_b1] at h3
        rw [if_pos (by rw [hb, h3, decide_eq_true h]; rfl)] at this
        exact zy_c71 hY (by omega) k1 (fun x hx => by obtain ⟨p, a, b, c⟩ := (k3 x).mp hx; rw [← c]; exact (hn p (by omega)).2) h2 ⟨hY, this⟩
  have := loop 10 0 rfl
  rw [zo_lst, zo_wr_nil] at this
  exact sg_70_0 hY _ this
/-- the least name above one -/
def zo_bst (g : Nat → Bool) (f : Nat → Nat) (last : Nat) : Nat → Option Nat
  | 0 => none
  | p + 1 => if g p && (decide (last < f p) && (match zo_bst g f last p with
    | none => true
    | some b => decide (f p < b))) then some (f p) else zo_bst g f last p
def zo_be (o : Option Nat) : Int32 := match o with
  | none => -1
  | some v => nI v
theorem zo_bst_ok {g : Nat → Bool} {f : Nat → Nat} {last : Nat} : ∀ p, match zo_bst g f last p with
    | none => ∀ q, q < p → g q = true → f q ≤ last
    | some v => (∃ q, q < p ∧ g q = true ∧ f q = v) ∧ last < v ∧ ∀ q, q < p → g q = true → last < f q → v ≤ f q
  | 0 => fun q hq => by omega
  | p + 1 => by
    have ih := zo_bst_ok (g := g) (f := f) (last := last) p
    rw [zo_bst]
    cases hz : zo_bst g f last p with
    | none =>
      rw [hz] at ih
      dsimp only at ih ⊢
      by_cases h : (g p && (decide (last < f p) && true)) = true
      · rw [if_pos h]
        simp only [Bool.and_true, Bool.and_eq_true, decide_eq_true_eq] at h
        refine ⟨⟨p, by omega, h.1, rfl⟩, h.2, fun q hq hg hl => ?_⟩
        by_cases e : q = p
        · rw [e]; exact Nat.le_refl _
        · have := ih q (by omega) hg; omega
      · rw [if_neg h]
        intro q hq hg
        by_cases e : q = p
        · subst e
          simp only [Bool.and_true, Bool.and_eq_true, decide_eq_true_eq, not_and] at h
          have := h hg; omega
        · exact ih q (by omega) hg
    | some b =>
      rw [hz] at ih
      dsimp only at ih ⊢
      obtain ⟨⟨q0, a1, a2, a3⟩, a4, a5⟩ := ih
      by_cases h : (g p && (decide (last < f p) && decide (f p < b))) = true
      · rw [if_pos h]
        simp only [Bool.and_eq_true, decide_eq_true_eq] at h
        refine ⟨⟨p, by omega, h.1, rfl⟩, h.2.1, fun q hq hg hl => ?_⟩
        by_cases e : q = p
        · rw [e]; exact Nat.le_refl _
        · have := a5 q (by omega) hg hl; omega
      · rw [if_neg h]
        refine ⟨⟨q0, by omega, a2, a3⟩, a4, fun q hq hg hl => ?_⟩
        by_cases e : q = p
        · subst e
          simp only [Bool.and_eq_true, decide_eq_true_eq, not_and] at h
          have := h hg hl; omega
        · exact a5 q (by omega) hg hl
def zo_last (xs : List Nat) (m : Nat) : Nat := if m = 0 then 0 else xs.getD (m - 1) 0
theorem zo_srt_lt {xs : List Nat} (hs : xs.Pairwise (· < ·)) {i j : Nat} (hij : i < j) (hj : j < xs.length) : xs.getD i 0 < xs.getD j 0 := by
  rw [List.getD_eq_getElem?_getD, List.getElem?_eq_getElem (by omega), List.getD_eq_getElem?_getD, List.getElem?_eq_getElem hj]
  exact List.pairwise_iff_getElem.mp hs i j (by omega) hj hij
theorem zo_bst_lst {f : Nat → Nat} {s P m : Nat} (hm : m ≤ (zo_lst f s P).length) : zo_bst (zy_bg f s) f (zo_last (zo_lst f s P) m) P = if m < (zo_lst f s P).length then some ((zo_lst f s P).getD m 0) else none := by
  obtain ⟨k1, k2, k3⟩ := zo_lst_ok (f := f) (s := s) P
  have ok := zo_bst_ok (g := zy_bg f s) (f := f) (last := zo_last (zo_lst f s P) m) P
  generalize zo_lst f s P = xs at *
  have pos : ∀ y, y ∈ xs → 0 < y := fun y hy => by
    obtain ⟨p, a, b, c⟩ := (k3 y).mp hy
    unfold zy_bg at b
    simp only [Bool.and_eq_true, decide_eq_true_eq] at b
    omega
  have gm : ∀ k, k < xs.length → xs.getD k 0 ∈ xs := fun k hk => by
    rw [List.getD_eq_getElem?_getD, List.getElem?_eq_getElem hk]; exact List.getElem_mem _
  have le : ∀ k, k < xs.length → (xs.getD k 0 ≤ zo_last xs m ↔ k < m) := fun k hk => by
    unfold zo_last
    split
    · rename_i h0
      have := pos _ (gm k hk)
      omega
    · rename_i h0
      by_cases e : k = m - 1
      · subst e; exact ⟨fun _ => by omega, fun _ => Nat.le_refl _⟩
      · by_cases e2 : k < m - 1
        · have := zo_srt_lt k1 e2 (by omega)
          exact ⟨fun _ => by omega, fun _ => by omega⟩
        · have := zo_srt_lt k1 (show m - 1 < k by omega) hk
          exact ⟨fun _ => by omega, fun _ => by omega⟩
  cases hz : zo_bst (zy_bg f s) f (zo_last xs m) P with
  | none =>
    rw [hz] at ok
    dsimp only at ok
    by_cases h : m < xs.length
    · obtain ⟨p, a, b, c⟩ := (k3 _).mp (gm m h)
      have := ok p a b
      rw [c] at this
      have := (le m h).mp this
      omega
    · rw [if_neg h]
  | some v =>
    rw [hz] at ok
    dsimp only at ok
    obtain ⟨⟨q, a1, a2, a3⟩, a4, a5⟩ := ok
    have hv : v ∈ xs := (k3 v).mpr ⟨q, a1, a2, a3⟩
    obtain ⟨k, hk, e⟩ := List.getElem_of_mem hv
    have e : xs.getD k 0 = v := by rw [List.getD_eq_getElem?_getD, List.getElem?_eq_getElem hk, e]; rfl
    have hkm : ¬ k < m := fun q => by have := (le k hk).mpr q; omega
    have h : m < xs.length := by omega
    rw [if_pos h]
    obtain ⟨p, b1, b2, b3⟩ := (k3 _).mp (gm m h)
    have : ¬ xs.getD m 0 ≤ zo_last xs m := fun q => by have := (le m h).mp q; omega
    have h2 := a5 p b1 b2 (by omega)
    rw [b3] at h2
    by_cases ek : k = m
    · rw [← ek, e]
    · have := zo_srt_lt k1 (show m < k by omega) hk
      omega
/-- the reference's list -/
theorem zy_202 (hY : zx_lay Y) {P : Nat} (hP : P ≤ 10) (hp : I 132 3 = nI P) {f : Nat → Nat} (hn : ∀ p, p < P → I 134 p = nI (f p) ∧ f p < 5764801) {s : Nat} (hs : zy_is (nI s) = true) (hs2 : s < 2 ^ 31)
    (hq : zx_To l E (d + 4) 202 125 [some (.ref 132), none, none, some (.int (nI (zo_lst f s P).length)), none, some (.int 0), none, none] [] (zo_wr (zx_u2 I 132 0 0) 143 (zo_lst f s P), L, Y) (fun r M' => r = none ∧ Qv M')) : zx_Cv l E (d + 4) 202 [.ref 132, .int (nI s)] (I, L, Y) Qv := by
  obtain ⟨k1, k2, k3⟩ := zo_lst_ok (f := f) (s := s) P
  have hbits : zy_orN (zy_bg f s) P < 2 ^ 31 := Nat.lt_of_lt_of_le (zy_orN_lt _ P) (Nat.pow_le_pow_right (by omega) (by omega))
  have hbit : ∀ p, p < P → (zy_orN (zy_bg f s) P).testBit p = zy_bg f s p := fun p hp => by rw [zy_orN_bit, decide_eq_true hp, Bool.true_and]
  have hg : ∀ k, k < (zo_lst f s P).length → (zo_lst f s P).getD k 0 < 5764801 ∧ 0 < (zo_lst f s P).getD k 0 := fun k hk => by
    have hm : (zo_lst f s P).getD k 0 ∈ zo_lst f s P := by rw [List.getD_eq_getElem?_getD, List.getElem?_eq_getElem hk]; exact List.getElem_mem _
    obtain ⟨p, a, b, c⟩ := (k3 _).mp hm
    rw [← c]
    unfold zy_bg at b
    simp only [Bool.and_eq_true, decide_eq_true_eq] at b
    exact ⟨(hn p a).2, by omega⟩
  have em1 : ¬ (0 : Int32) ≤ -1 := by decide
  have lastlt : ∀ m, m ≤ (zo_lst f s P).length → zo_last (zo_lst f s P) m < 5764801 := fun m hm => by
    unfold zo_last
    split
    · omega
    · exact (hg (m - 1) (by omega)).1
  -- one turn
  have turn : ∀ (J : Nat → Nat → Int32) (m t : Nat) (Qo : Option Value → zx_M → Prop), J 132 3 = nI P → (∀ p, p < P → J 134 p = nI (f p)) → m ≤ (zo_lst f s P).length →
      (∀ o, o = zo_bst (zy_bg f s) f (zo_last (zo_lst f s P) m) P → zx_To l E (d + 4) 202 29 [some (.ref 132), none, some (.int (nI (zy_orN (zy_bg f s) P))), some (.int (nI m)), some (.int (nI (zo_last (zo_lst f s P) m))), some (.int (nI t)), some (.int (zo_be o)), some (.int (nI P))] [] (J, L, Y) Qo) →
      zx_To l E (d + 4) 202 29 [some (.ref 132), none, some (.int (nI (zy_orN (zy_bg f s) P))), some (.int (nI m)), some (.int (nI (zo_last (zo_lst f s P) m))), some (.int (nI t)), some (.int (-1)), some (.int 0)] [] (J, L, Y) Qo := by
    intro J m t Qo j3 j134 hm hend
    have hl := lastlt m hm
    have loop : ∀ n p, n + p = P → zx_To l E (d + 4) 202 29 [some (.ref 132), none, some (.int (nI (zy_orN (zy_bg f s) P))), some (.int (nI m)), some (.int (nI (zo_last (zo_lst f s P) m))), some (.int (nI t)), some (.int (zo_be (zo_bst (zy_bg f s) f (zo_last (zo_lst f s P) m) p))), some (.int (nI p))] [] (J, L, Y) Qo := by
      intro n
      induction n with
      | zero =>
        intro p hp
        have ep : p = P := by omega
        subst ep
        exact hend _ rfl
      | succ n ih =>
        intro p hp
        have hpP : p < P := by omega
        have e4 := j134 p hpP
        have f4 := (hn p hpP).2
        have next := ih (p + 1) (by omega)
        have hv := vp_in_nI (n := p) (N := 10) (by omega) (by omega)
        rw [zo_bst] at next
        refine sg_202_29 hY _ _ _ _ _ _ ⟨fun h => ?_, fun _ => zy_168 hY ⟨hY, fun h => ?_, fun h => ⟨hv, ?_⟩⟩⟩
        · rw [j3] at h
          exact absurd ((nI_leI (by omega) (by omega)).mp h) (by omega)
        · rw [nI_1]
          rw [zy_b0, decide_eq_false_iff_not, zy_test1 hbits (by omega), hbit p hpP] at h
          rw [if_neg (by simp [h])] at next
          exact next
        · rw [zy_b1, decide_eq_true_eq, zy_test1 hbits (by omega), hbit p hpP] at h
          dsimp only
          rw [nI_clamp (by omega), e4, nI_leI (by omega) (by omega), nI_1]
          refine ⟨fun h2 => ?_, fun h2 => ?_⟩
          · rw [if_neg (by simp; omega)] at next
            exact next
          · cases hz : zo_bst (zy_bg f s) f (zo_last (zo_lst f s P) m) p with
            | none =>
              rw [hz] at next
              dsimp only at next
              rw [if_pos (by rw [h, decide_eq_true (show zo_last (zo_lst f s P) m < f p by omega)]; rfl)] at next
              exact ⟨fun _ => ⟨hv, next⟩, fun h3 => absurd (show (-1 : Int32) < 0 by decide) h3⟩
            | some b =>
              rw [hz] at next
              dsimp only at next
              have hb : b < 5764801 := by
                have ok := zo_bst_ok (g := zy_bg f s) (f := f) (last := zo_last (zo_lst f s P) m) p
                rw [hz] at ok
                obtain ⟨⟨q, a1, a2, a3⟩, -⟩ := ok
                rw [← a3]; exact (hn q (by omega)).2
              show ((nI b < 0 → _) ∧ (¬ nI b < 0 → vp_in (nI p) 10 ∧ ((nI b ≤ nI (f p) → _) ∧ (¬ nI b ≤ nI (f p) → _))))
              rw [nI_leI (by omega) (by omega)]
              refine ⟨fun h3 => absurd h3 (nI_pos (by omega)), fun _ => ⟨hv, fun h4 => ?_, fun h4 => ⟨hv, ?_⟩⟩⟩
              · rw [if_neg (by simp; omega)] at next
                exact next
              · rw [if_pos (by rw [h, decide_eq_true (show zo_last (zo_lst f s P) m < f p by omega), decide_eq_true (show f p < b by omega)]; rfl)] at next
                exact next
    exact loop P 0 rfl
  refine sg_202_0 hY _ (zy_196 hY hP hp hn hs hs2 ⟨hY, ?_⟩)
  -- all turns
  have loop : ∀ n t m, n + t = P → m = min t (zo_lst f s P).length → zx_To l E (d + 4) 202 14 [some (.ref 132), none, some (.int (nI (zy_orN (zy_bg f s) P))), some (.int (nI m)), some (.int (nI (zo_last (zo_lst f s P) m))), some (.int (nI t)), none, none] [] (zo_wr (zx_u2 I 132 0 0) 143 ((zo_lst f s P).take m), L, Y) (fun r M' => r = none ∧ Qv M') := by
    intro n
    induction n with
    | zero =>
      intro t m ht hm
      have et : t = P := by omega
      subst et
      have em : m = (zo_lst f s t).length := by omega
      have e3 : zo_wr (zx_u2 I 132 0 0) 143 ((zo_lst f s t).take m) 132 3 = nI t := by rw [zo_wr_el (by omega), zy_u2_nk (by omega)]; exact hp
      refine sg_202_14 hY _ _ _ _ ⟨fun _ => ?_, fun h => absurd (by rw [e3]; exact nI_le (Nat.le_refl _) (by omega)) h⟩
      rw [em, List.take_length]
      exact hq
    | succ n ih =>
      intro t m ht hm
      have e3 : zo_wr (zx_u2 I 132 0 0) 143 ((zo_lst f s P).take m) 132 3 = nI P := by rw [zo_wr_el (by omega), zy_u2_nk (by omega)]; exact hp
      refine sg_202_14 hY _ _ _ _ ⟨fun h => ?_, fun _ => ?_⟩
      · rw [e3] at h
        exact absurd ((nI_leI (by omega) (by omega)).mp h) (by omega)
      · refine turn _ m t _ e3 (fun p hpp => by rw [zo_wr_el (by omega), zy_u2_na (by omega)]; exact (hn p hpp).1) (by omega) (fun o ho => ?_)
        rw [zo_bst_lst (by omega)] at ho
        have next := ih (t + 1) (min (t + 1) (zo_lst f s P).length) (by omega) rfl
        refine sg_202_29 hY _ _ _ _ _ _ ⟨fun _ => ?_, fun h => absurd (by rw [e3]; exact nI_le (Nat.le_refl _) (by omega)) h⟩
        rw [nI_1]
        by_cases hlt : m < (zo_lst f s P).length
        · rw [if_pos hlt] at ho
          subst ho
          obtain ⟨h1, h2⟩ := hg m hlt
          show ((nI ((zo_lst f s P).getD m 0) ≤ 0 → _) ∧ (¬ nI ((zo_lst f s P).getD m 0) ≤ 0 → vp_in (nI m) 10 ∧ zx_To l E (d + 4) 202 14 [some (.ref 132), none, some (.int (nI (zy_orN (zy_bg f s) P))), some (.int (nI m + 1)), some (.int (nI ((zo_lst f s P).getD m 0))), some (.int (nI (t + 1))), none, none] [] (zx_u2 (zo_wr (zx_u2 I 132 0 0) 143 ((zo_lst f s P).take m)) 143 (nI m).toNatClampNeg (nI ((zo_lst f s P).getD m 0)), L, Y) _))
          refine ⟨fun h => absurd ((zy_le0 (by omega)).mp h) (by omega), fun _ => ⟨vp_in_nI (by omega) (by omega), ?_⟩⟩
          rw [nI_1, nI_clamp (by omega)]
          have em : min (t + 1) (zo_lst f s P).length = m + 1 := by omega
          rw [em] at next
          have el : zo_last (zo_lst f s P) (m + 1) = (zo_lst f s P).getD m 0 := by unfold zo_last; rw [if_neg (by omega)]; rfl
          have ew : zx_u2 (zo_wr (zx_u2 I 132 0 0) 143 ((zo_lst f s P).take m)) 143 m (nI ((zo_lst f s P).getD m 0)) = zo_wr (zx_u2 I 132 0 0) 143 ((zo_lst f s P).take (m + 1)) := by
            funext a k
            have gt : ∀ j k, k < j → ((zo_lst f s P).take j).getD k 0 = (zo_lst f s P).getD k 0 := fun j k h => by
              rw [List.getD_eq_getElem?_getD, List.getElem?_take_of_lt h, List.getD_eq_getElem?_getD]
            by_cases z : a = 143 ∧ k = m
            · rw [z.1, z.2, zy_u2_self, zo_wr_at (by rw [List.length_take]; omega), gt _ _ (by omega)]
            · rw [zy_u2_ne z]
              unfold zo_wr
              rw [List.length_take, List.length_take]
              by_cases z2 : a = 143 ∧ k < m
              · rw [if_pos (by omega), if_pos (by omega), gt _ _ z2.2, gt _ _ (by omega)]
              · rw [if_neg (by omega), if_neg (by omega)]
          rw [ew]
          rw [el] at next
          exact next
        · rw [if_neg hlt] at ho
          subst ho
          have em : min (t + 1) (zo_lst f s P).length = m := by omega
          rw [em] at next
          exact ⟨fun _ => next, fun h => absurd (show (-1 : Int32) ≤ 0 by decide) h⟩
  have := loop P 0 0 rfl (by omega)
  rw [List.take_zero, zo_wr_nil] at this
  have e0 : zo_last (zo_lst f s P) 0 = 0 := rfl
  rw [e0] at this
  exact this
end YLs
