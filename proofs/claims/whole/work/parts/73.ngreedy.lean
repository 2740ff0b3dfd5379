/-! ===== new names: who meets whom; the reference's choice one by one ===== -/
def zn_mt (n k m : Nat) : Nat := max (max 1 (n - k)) (m - k)
theorem zn_pf_pf {c L m : Nat} (h1 : m ≤ L) (h2 : L ≤ zy_len c) : zy_pf (zy_pf c L) m = zy_pf c m := by
  unfold zy_pf
  rw [zy_len_dk, Nat.div_div_eq_div_mul, ← Nat.pow_add]
  congr 2
  omega
theorem zn_cm {c a k : Nat} (hc : c < 5764801) (ha : a < 5764801) (hk : k ≤ 8) : zy_cm c a (nI k) = (decide (zn_mt (zy_len c) k (zy_len a) ≤ zy_len c ∧ zn_mt (zy_len c) k (zy_len a) ≤ zy_len a) && decide (zy_pf c (zn_mt (zy_len c) k (zy_len a)) = zy_pf a (zn_mt (zy_len c) k (zy_len a)))) := by
  obtain ⟨h1, h2, h3⟩ := zy_cp_ok hc ha
  obtain ⟨-, l1, l2⟩ := zy_cp_lt hc ha
  have b1 := zy_len8 hc
  have b2 := zy_len8 ha
  generalize hL : zy_len (zy_cp c a) = L at *
  have e : zy_cm c a (nI k) = decide (zn_mt (zy_len c) k (zy_len a) ≤ L) := by
    unfold zy_cm
    rw [hL, Bool.eq_iff_iff, Bool.and_eq_true, Bool.and_eq_true, decide_eq_true_eq, Bool.not_eq_true', Bool.not_eq_true', decide_eq_false_iff_not, decide_eq_false_iff_not, nI_ltI (by omega) (by omega), nI_ltI (by omega) (by omega), decide_eq_true_eq]
    unfold zn_mt
    omega
  rw [e]
  generalize zn_mt (zy_len c) k (zy_len a) = mt at *
  rw [Bool.eq_iff_iff, decide_eq_true_eq, Bool.and_eq_true, decide_eq_true_eq, decide_eq_true_eq]
  constructor
  · intro h
    refine ⟨⟨by omega, by omega⟩, ?_⟩
    rw [← zn_pf_pf h l1, ← zn_pf_pf h l2, ← h1, ← h2]
  · rintro ⟨⟨a1, a2⟩, a3⟩
    by_cases z : mt ≤ L
    · exact z
    · exact absurd a3 (h3 mt (by omega) a1 a2)
/-- the barred beginnings of the first p people -/
def zn_bs (f : Nat → Nat) (n k : Nat) : Nat → List Nat
  | 0 => []
  | p + 1 => if zn_mt n k (zy_len (f p)) ≤ n ∧ zn_mt n k (zy_len (f p)) ≤ zy_len (f p) then zn_bs f n k p ++ [zy_pf (f p) (zn_mt n k (zy_len (f p)))] else zn_bs f n k p
theorem zn_bs_len {f : Nat → Nat} {n k : Nat} : ∀ p, (zn_bs f n k p).length ≤ p
  | 0 => Nat.le_refl _
  | p + 1 => by
    have := zn_bs_len (f := f) (n := n) (k := k) p
    rw [zn_bs]
    split
    · rw [List.length_append]; show _ + 1 ≤ _; omega
    · omega
theorem zn_bs_mem {f : Nat → Nat} {n k b : Nat} : ∀ p, b ∈ zn_bs f n k p → ∃ i, i < p ∧ b = zy_pf (f i) (zn_mt n k (zy_len (f i)))
  | 0, h => (by cases h)
  | p + 1, h => by
    rw [zn_bs] at h
    split at h
    · rcases List.mem_append.mp h with h | h
      · obtain ⟨i, a, b⟩ := zn_bs_mem p h; exact ⟨i, by omega, b⟩
      · exact ⟨p, by omega, List.mem_singleton.mp h⟩
    · obtain ⟨i, a, b⟩ := zn_bs_mem p h; exact ⟨i, by omega, b⟩
theorem zn_sf_app {bs : List Nat} {b c : Nat} : zn_sf (bs ++ [b]) c = (zn_sf bs c && !zy_st c b) := by
  unfold zn_sf; rw [List.all_append]; simp
/-- who meets nobody -/
theorem zn_bs_sf {f : Nat → Nat} {n k c : Nat} (hc : c < 5764801) (hl : zy_len c = n) (hk : k ≤ 8) : ∀ p, (∀ i, i < p → f i < 5764801) → zn_sf (zn_bs f n k p) c = (List.range p).all (fun i => !zy_cm c (f i) (nI k))
  | 0, _ => rfl
  | p + 1, hf => by
    have ih := zn_bs_sf (f := f) hc hl hk p (fun i hi => hf i (by omega))
    have e1 : ([p].all fun i => !zy_cm c (f i) (nI k)) = !zy_cm c (f p) (nI k) := by simp
    rw [List.range_succ, List.all_append, ← ih, e1, zn_bs, zn_cm hc (hf p (by omega)) hk, hl]
    by_cases h : zn_mt n k (zy_len (f p)) ≤ n ∧ zn_mt n k (zy_len (f p)) ≤ zy_len (f p)
    · rw [if_pos h, zn_sf_app]
      have e : zy_st c (zy_pf (f p) (zn_mt n k (zy_len (f p)))) = decide (zy_pf c (zn_mt n k (zy_len (f p))) = zy_pf (f p) (zn_mt n k (zy_len (f p)))) := by
        unfold zy_st
        rw [zy_len_pf, show min (zy_len (f p)) (zn_mt n k (zy_len (f p))) = zn_mt n k (zy_len (f p)) by omega]
      rw [e]
      simp [h]
    · rw [if_neg h]
      simp [h]
/-- two new names -/
theorem zn_cm2 {c c' n k : Nat} (hc : c < 5764801) (hc' : c' < 5764801) (h1 : zy_len c = n) (h2 : zy_len c' = n) (hn : 1 ≤ n) (hk : k ≤ 8) : zy_cm c c' (nI k) = decide (c / 7 ^ (n - max 1 (n - k)) = c' / 7 ^ (n - max 1 (n - k))) := by
  rw [zn_cm hc hc' hk, h1, h2]
  have e : zn_mt n k n = max 1 (n - k) := by unfold zn_mt; omega
  rw [e, decide_eq_true (by omega), Bool.true_and]
  unfold zy_pf
  rw [h1, h2]
theorem zn_k_lt {pr : Nat → Nat} {a b : Nat} (ha : a < 16807) (h : zn_c pr a < zn_c pr b) : zn_k pr a < zn_k pr b := by
  unfold zn_k
  generalize zn_c pr a = A at *
  generalize zn_c pr b = B at *
  omega
theorem zn_k_le {pr : Nat → Nat} {a b : Nat} (h : zn_c pr b ≤ zn_c pr a) (hlt : b < a) : zn_k pr b ≤ zn_k pr a := by
  unfold zn_k
  generalize zn_c pr a = A at *
  generalize zn_c pr b = B at *
  omega
/-- the cheapest of the first x, the first of as cheap ones -/
def zn_b1 (ok : Nat → Bool) (pr : Nat → Nat) (n : Nat) : Nat → Option Nat
  | 0 => none
  | x + 1 => if (match zn_b1 ok pr n x with
    | none => true
    | some b => decide (zn_c pr (zl_na 6 n x) < zn_c pr b)) && ok (zl_na 6 n x) then some (zl_na 6 n x) else zn_b1 ok pr n x
theorem zn_b1_ok {ok : Nat → Bool} {pr : Nat → Nat} {n : Nat} (hn : n ≤ 5) : ∀ x, x ≤ 6 ^ n → match zn_b1 ok pr n x with
    | none => ∀ y, y < x → ok (zl_na 6 n y) = false
    | some b => (∃ y, y < x ∧ zl_na 6 n y = b) ∧ ok b = true ∧ ∀ y, y < x → ok (zl_na 6 n y) = true → zn_k pr b ≤ zn_k pr (zl_na 6 n y)
  | 0, _ => fun y hy => (by omega)
  | x + 1, hx => by
    have ih := zn_b1_ok (ok := ok) (pr := pr) hn x (by omega)
    have lt16 : ∀ y, zl_na 6 n y < 16807 := fun y => Nat.lt_of_lt_of_le ((zy_len_lt n _).mp (by rw [zl_na_len (by omega) (by omega)]; exact Nat.le_refl _)) (zn_pow5 hn)
    rw [zn_b1]
    cases hz : zn_b1 ok pr n x with
    | none =>
      rw [hz] at ih
      dsimp only at ih ⊢
      rw [Bool.true_and]
      by_cases h : ok (zl_na 6 n x) = true
      · rw [if_pos h]
        refine ⟨⟨x, by omega, rfl⟩, h, fun y hy hoy => ?_⟩
        by_cases e : y = x
        · rw [e]; exact Nat.le_refl _
        · rw [ih y (by omega)] at hoy; cases hoy
      · rw [if_neg h]
        intro y hy
        by_cases e : y = x
        · rw [e]; simpa using h
        · exact ih y (by omega)
    | some b =>
      rw [hz] at ih
      dsimp only at ih ⊢
      obtain ⟨⟨y0, a1, a2⟩, a3, a4⟩ := ih
      have hlt : b < zl_na 6 n x := by rw [← a2]; exact zl_na_mono (by omega) (by omega) n y0 x (by omega) (by omega)
      have hb := lt16 y0
      rw [a2] at hb
      have hc := lt16 x
      by_cases h : (decide (zn_c pr (zl_na 6 n x) < zn_c pr b) && ok (zl_na 6 n x)) = true
      · rw [if_pos h]
        rw [Bool.and_eq_true, decide_eq_true_eq] at h
        refine ⟨⟨x, by omega, rfl⟩, h.2, fun y hy hoy => ?_⟩
        by_cases e : y = x
        · rw [e]; exact Nat.le_refl _
        · exact Nat.le_trans (Nat.le_of_lt (zn_k_lt hc h.1)) (a4 y (by omega) hoy)
      · rw [if_neg h]
        refine ⟨⟨y0, by omega, a2⟩, a3, fun y hy hoy => ?_⟩
        by_cases e : y = x
        · rw [e] at hoy ⊢
          rw [Bool.and_eq_true, decide_eq_true_eq] at h
          exact zn_k_le (Nat.le_of_not_lt (fun q => h ⟨q, hoy⟩)) hlt
        · exact a4 y (by omega) hoy
/-- names of n letters, by number -/
theorem zn_na_d {n : Nat} (e : Nat) : zn_d n e ↔ ∃ x, x < 6 ^ n ∧ zl_na 6 n x = e := by
  constructor
  · rintro ⟨h1, h2⟩
    have hwi : ∀ r e, zy_dig e = true → zy_len e = r → zl_wi 6 r e = true := by
      intro r
      induction r with
      | zero => intro e _ h; rw [zy_len_pos.mp h]; rfl
      | succ r ih =>
        intro e hd hl
        have e0 : e ≠ 0 := fun q => by rw [q, zy_len_0] at hl; omega
        rw [zy_dig_s e0, Bool.and_eq_true] at hd
        rw [zl_wi, if_neg e0, decide_eq_true (by omega), Bool.true_and]
        exact ih (e / 7) hd.2 (by rw [zy_len_s e0] at hl; omega)
    obtain ⟨x, a, b, _⟩ := zl_na_ex (w := 6) (by omega) (by omega) n e h1 (hwi n e h1 h2)
    rw [h2] at a b
    exact ⟨x, a, b⟩
  · rintro ⟨x, _, rfl⟩
    exact ⟨zl_na_dig (by omega) (by omega) n x, zl_na_len (by omega) (by omega) n x⟩
/-- what may still be taken -/
def zn_okg (sf : Nat → Bool) (q : Nat) (gs : List Nat) : Nat → Bool := fun c => sf c && gs.all (fun g => decide (c / 7 ^ q ≠ g / 7 ^ q))
theorem zn_okg_iff {sf : Nat → Bool} {q : Nat} {gs : List Nat} {c : Nat} : zn_okg sf q gs c = true ↔ sf c = true ∧ ∀ g ∈ gs, c / 7 ^ q ≠ g / 7 ^ q := by
  unfold zn_okg; rw [Bool.and_eq_true, List.all_eq_true]
  exact ⟨fun ⟨a, b⟩ => ⟨a, fun g hg => by simpa using b g hg⟩, fun ⟨a, b⟩ => ⟨a, fun g hg => by simpa using b g hg⟩⟩
section ZG2
variable {pr : Nat → Nat} {q n : Nat} {sf : Nat → Bool} {gs : List Nat}
/-- one that is a first of its class and not taken may be taken -/
theorem zn_new (hn : n ≤ 5) (h : ∀ x ∈ gs, zn_rep pr q (fun e => zn_d n e ∧ sf e = true) x) {s : Nat} (hs : zn_rep pr q (fun e => zn_d n e ∧ sf e = true) s) (hsn : s ∉ gs) : zn_okg sf q gs s = true := by
  refine zn_okg_iff.mpr ⟨hs.1.2, fun g hg e => hsn ?_⟩
  have hx := h g hg
  have k1 := hx.2 s hs.1 e
  have k2 := hs.2 g hx.1 e.symm
  have : s = g := zn_k_inj (pr := pr) (Nat.lt_of_lt_of_le (zn_d_lt hs.1.1) (zn_pow5 hn)) (Nat.lt_of_lt_of_le (zn_d_lt hx.1.1) (zn_pow5 hn)) (by omega)
  rw [this]; exact hg
theorem zn_greedy (hn : n ≤ 5) (h : zn_top (zn_k pr) gs.length (zn_rep pr q (fun e => zn_d n e ∧ sf e = true)) gs) :
    match zn_b1 (zn_okg sf q gs) pr n (6 ^ n) with
    | none => ∀ L, gs.length ≤ L → zn_top (zn_k pr) L (zn_rep pr q (fun e => zn_d n e ∧ sf e = true)) gs
    | some g => zn_d n g ∧ zn_top (zn_k pr) (gs ++ [g]).length (zn_rep pr q (fun e => zn_d n e ∧ sf e = true)) (gs ++ [g]) := by
  have ok := zn_b1_ok (ok := zn_okg sf q gs) (pr := pr) hn (6 ^ n) (Nat.le_refl _)
  obtain ⟨h1, h2, h3, h4⟩ := h
  cases hz : zn_b1 (zn_okg sf q gs) pr n (6 ^ n) with
  | none =>
    rw [hz] at ok
    dsimp only at ok ⊢
    intro L hL
    refine ⟨h1, hL, h3, fun s hs => Or.inl ?_⟩
    by_cases hsn : s ∈ gs
    · exact hsn
    · obtain ⟨x, a, b⟩ := (zn_na_d s).mp hs.1.1
      have := ok x a
      rw [b, zn_new hn h3 hs hsn] at this; cases this
  | some g =>
    rw [hz] at ok
    dsimp only at ok ⊢
    obtain ⟨⟨y, a1, a2⟩, a3, a4⟩ := ok
    have hgd : zn_d n g := (zn_na_d g).mpr ⟨y, a1, a2⟩
    obtain ⟨b1, b2⟩ := zn_okg_iff.mp a3
    have hgR : zn_rep pr q (fun e => zn_d n e ∧ sf e = true) g := ⟨⟨hgd, b1⟩, fun e' he' hcl => by
      obtain ⟨x, c1, c2⟩ := (zn_na_d e').mp he'.1
      have := a4 x c1 (by rw [c2]; exact zn_okg_iff.mpr ⟨he'.2, fun g' hg' e => b2 g' hg' (by rw [← hcl]; exact e)⟩)
      rw [c2] at this; exact this⟩
    have hgn : g ∉ gs := fun q => b2 g q rfl
    have below : ∀ x ∈ gs, zn_k pr x < zn_k pr g := by
      rcases h4 g hgR with z | ⟨_, z⟩
      · exact absurd z hgn
      · exact z
    refine ⟨hgd, ?_, Nat.le_refl _, fun x hx => ?_, fun s hs => ?_⟩
    · rw [List.pairwise_append]
      exact ⟨h1, List.pairwise_singleton _ _, fun a ha b hb => by rw [List.mem_singleton.mp hb]; exact below a ha⟩
    · rcases List.mem_append.mp hx with hx | hx
      · exact h3 x hx
      · rw [List.mem_singleton.mp hx]; exact hgR
    · by_cases e : s = g
      · exact Or.inl (List.mem_append.mpr (Or.inr (List.mem_singleton.mpr e)))
      · rcases h4 s hs with z | ⟨_, z⟩
        · exact Or.inl (List.mem_append.mpr (Or.inl z))
        · refine Or.inr ⟨rfl, fun x hx => ?_⟩
          rcases List.mem_append.mp hx with hx | hx
          · exact z x hx
          · rw [List.mem_singleton.mp hx]
            have hsn : s ∉ gs := fun w => Nat.lt_irrefl _ (z s w)
            obtain ⟨x', c1, c2⟩ := (zn_na_d s).mp hs.1.1
            have hle := a4 x' c1 (by rw [c2]; exact zn_new hn h3 hs hsn)
            rw [c2] at hle
            have : zn_k pr g ≠ zn_k pr s := fun w => e (zn_k_inj (Nat.lt_of_lt_of_le (zn_d_lt hs.1.1) (zn_pow5 hn)) (Nat.lt_of_lt_of_le (zn_d_lt hgd) (zn_pow5 hn)) w.symm)
            omega
end ZG2
