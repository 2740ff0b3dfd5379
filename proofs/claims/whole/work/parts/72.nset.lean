/-! ===== new names: what may be chosen, how many there are ===== -/
section ZM
variable {pr : Nat → Nat} {q many : Nat} {bs : List Nat}
theorem zn_rep_iff {D D' : Nat → Prop} (h : ∀ e, D e ↔ D' e) (e : Nat) : zn_rep pr q D e ↔ zn_rep pr q D' e :=
  ⟨fun ⟨a, b⟩ => ⟨(h e).mp a, fun e' he => b e' ((h e').mpr he)⟩, fun ⟨a, b⟩ => ⟨(h e).mpr a, fun e' he => b e' ((h e').mp he)⟩⟩
def zn_any (pr : Nat → Nat) (q many : Nat) : Nat → List Nat
  | 0 => [0]
  | r + 1 => zn_st pr (zn_lm q many (r + 1)) r (fun _ => zn_any pr q many r) 6
theorem zn_D_d {r e : Nat} : zn_D r (fun _ => zn_d r) 6 e ↔ zn_d (r + 1) e := by
  constructor
  · rintro ⟨x, e1, a, b, rfl, h⟩; exact (zn_cons (pr := fun _ => 0) a b r e1 h).1
  · intro h
    obtain ⟨x, e1, a, b, c, d⟩ := zn_uncons r e h
    exact ⟨x, e1, a, b, d, c⟩
theorem zn_any_ok (hm : 1 ≤ many) : ∀ r, r ≤ 5 → zn_top (zn_k pr) (zn_lm q many r) (zn_rep pr q (zn_d r)) (zn_any pr q many r)
  | 0, _ => by
    have e : zn_lm q many 0 = 1 := by unfold zn_lm; rw [if_pos (Nat.zero_le _)]
    rw [e, zn_any]
    refine ⟨List.pairwise_singleton _ _, Nat.le_refl _, fun x hx => ?_, fun s hs => Or.inl ?_⟩
    · rw [List.mem_singleton] at hx
      subst hx
      exact ⟨zn_d_0.mpr rfl, fun e' he' _ => by rw [zn_d_0.mp he']; exact Nat.le_refl _⟩
    · rw [zn_d_0.mp hs.1]; exact List.mem_singleton.mpr rfl
  | r + 1, hr => by
    have := zn_step (pr := pr) (q := q) (many := many) hr hm (D := fun _ => zn_d r) (fun _ _ _ _ h => h) (ch := fun _ => zn_any pr q many r) (fun _ _ _ => zn_any_ok hm r (by omega))
    exact zn_top_iff this (fun e => zn_rep_iff (fun e => zn_D_d) e)
theorem zn_all_nil {κ : Nat → Nat} {L : Nat} {S : Nat → Prop} {xs : List Nat} (h : zn_top κ L S xs) : zn_all κ L [] xs = xs := by
  have h0 : zn_top κ L (fun _ => False) [] := ⟨List.Pairwise.nil, Nat.zero_le _, fun x hx => (by cases hx), fun s hs => hs.elim⟩
  have h1 := zn_top_all h0 xs h.1 (fun _ _ h => h) (fun _ _ _ h => h.elim)
  have h2 : zn_top κ L (fun e => False ∨ e ∈ xs) xs := ⟨h.1, h.2.1, fun x hx => Or.inr hx, fun s hs => Or.inl (hs.elim False.elim id)⟩
  exact zn_top_uniq h1 h2
/-- barred beginnings -/
def zn_sf (bs : List Nat) (c : Nat) : Bool := bs.all fun b => !zy_st c b
def zn_ld (bs : List Nat) (s : Nat) : Bool := bs.any fun b => zy_st b s
theorem zn_sf_iff {c : Nat} : zn_sf bs c = true ↔ ∀ b ∈ bs, zy_st c b = false := by
  unfold zn_sf; rw [List.all_eq_true]
  exact ⟨fun h b hb => by have := h b hb; simpa using this, fun h b hb => by rw [h b hb]; rfl⟩
def zn_pk (pr : Nat → Nat) (q many : Nat) (bs : List Nat) : Nat → Nat → List Nat
  | 0, s => if bs.contains s then [] else zn_all (zn_k pr) (zn_lm q many 0) [] (zn_any pr q many 0)
  | r + 1, s => if bs.contains s then [] else if zn_ld bs s then zn_st pr (zn_lm q many (r + 1)) r (fun x => zn_pk pr q many bs r (s * 7 + x)) 6 else zn_all (zn_k pr) (zn_lm q many (r + 1)) [] (zn_any pr q many (r + 1))
/-- how many -/
def zn_cs (bs : List Nat) : Nat → Nat → Nat
  | 0, s => if bs.contains s then 0 else 1
  | r + 1, s => if bs.contains s then 0 else if zn_ld bs s then zn_cs bs r (s * 7 + 1) + zn_cs bs r (s * 7 + 2) + zn_cs bs r (s * 7 + 3) + zn_cs bs r (s * 7 + 4) + zn_cs bs r (s * 7 + 5) + zn_cs bs r (s * 7 + 6) else 6 ^ (r + 1)
/-- a name by its beginning and its end -/
theorem zn_join {s r e : Nat} (hs : zy_dig s = true) (he : zn_d r e) : zy_dig (s * 7 ^ r + e) = true ∧ zy_len (s * 7 ^ r + e) = zy_len s + r ∧ (s * 7 ^ r + e) / 7 ^ r = s := by
  have hdiv : (s * 7 ^ r + e) / 7 ^ r = s := by rw [Nat.mul_comm, Nat.mul_add_div (Nat.pow_pos (by omega)), Nat.div_eq_of_lt (zn_d_lt he)]; rfl
  have key : ∀ r e, zn_d r e → zy_dig (s * 7 ^ r + e) = true ∧ zy_len (s * 7 ^ r + e) = zy_len s + r := by
    intro r
    induction r with
    | zero => intro e h; rw [zn_d_0.mp h, Nat.pow_zero, Nat.mul_one, Nat.add_zero, Nat.add_zero]; exact ⟨hs, rfl⟩
    | succ r ih =>
      intro e h
      have hl : zy_len e = r + 1 := h.2
      have e0 : e ≠ 0 := fun q => by rw [q, zy_len_0] at hl; omega
      have hd := h.1
      rw [zy_dig_s e0, Bool.and_eq_true, decide_eq_true_eq] at hd
      obtain ⟨a1, a2⟩ := ih (e / 7) ⟨hd.2, by rw [zy_len_s e0] at hl; omega⟩
      have ep : s * 7 ^ (r + 1) + e = 7 * (s * 7 ^ r + e / 7) + e % 7 := by rw [Nat.pow_succ, ← Nat.mul_assoc]; omega
      rw [ep]
      have k1 : (7 * (s * 7 ^ r + e / 7) + e % 7) / 7 = s * 7 ^ r + e / 7 := by omega
      have k2 : (7 * (s * 7 ^ r + e / 7) + e % 7) % 7 = e % 7 := by omega
      refine ⟨?_, ?_⟩
      · rw [zy_dig_s (by omega), k1, k2, a1, decide_eq_true hd.1]; rfl
      · rw [zy_len_s (by omega), k1, a2]; omega
  exact ⟨(key r e he).1, (key r e he).2, hdiv⟩
theorem zn_st_self {s r e : Nat} (hs : zy_dig s = true) (he : zn_d r e) : zy_st (s * 7 ^ r + e) s = true := by
  obtain ⟨-, h2, h3⟩ := zn_join hs he
  unfold zy_st zy_pf
  rw [h2, show zy_len s + r - zy_len s = r by omega, h3]; simp
theorem zn_st_short {s r e b : Nat} (hs : zy_dig s = true) (he : zn_d r e) (hb : zy_len b ≤ zy_len s) : zy_st (s * 7 ^ r + e) b = zy_st s b := by
  obtain ⟨-, h2, h3⟩ := zn_join hs he
  unfold zy_st zy_pf
  rw [h2, show zy_len s + r - zy_len b = r + (zy_len s - zy_len b) by omega, Nat.pow_add, ← Nat.div_div_eq_div_mul, h3]
theorem zn_st_long {s r e b : Nat} (hs : zy_dig s = true) (he : zn_d r e) (hb : zy_len s ≤ zy_len b) (hl : zy_len b ≤ zy_len s + r) (h : zy_st (s * 7 ^ r + e) b = true) : zy_st b s = true := by
  obtain ⟨-, h2, h3⟩ := zn_join hs he
  unfold zy_st zy_pf at h ⊢
  rw [decide_eq_true_eq] at h ⊢
  rw [h2] at h
  rw [← h, Nat.div_div_eq_div_mul, ← Nat.pow_add, h, show zy_len s + r - zy_len b + (zy_len b - zy_len s) = r by omega, h3]
theorem zn_st_len {c b : Nat} (h : zy_st c b = true) : zy_len b ≤ zy_len c := by
  unfold zy_st at h
  rw [decide_eq_true_eq] at h
  have := zy_len_pf (c := c) (n := zy_len b)
  rw [h] at this
  omega
def zn_Ds (bs : List Nat) (s r : Nat) : Nat → Prop := fun e => zn_d r e ∧ zn_sf bs (s * 7 ^ r + e) = true
theorem zn_Ds_step {s r e : Nat} : zn_D r (fun x => zn_Ds bs (s * 7 + x) r) 6 e ↔ zn_Ds bs s (r + 1) e := by
  have ee : ∀ x e1, (s * 7 + x) * 7 ^ r + e1 = s * 7 ^ (r + 1) + (x * 7 ^ r + e1) := fun x e1 => by rw [Nat.pow_succ, Nat.add_mul, Nat.mul_assoc, Nat.mul_comm 7, Nat.add_assoc]
  constructor
  · rintro ⟨x, e1, a, b, rfl, h1, h2⟩
    rw [ee] at h2
    exact ⟨(zn_cons (pr := fun _ => 0) a b r e1 h1).1, h2⟩
  · rintro ⟨h1, h2⟩
    obtain ⟨x, e1, a, b, c, rfl⟩ := zn_uncons r e h1
    exact ⟨x, e1, a, b, rfl, c, by rw [ee]; exact h2⟩
/-- nothing ahead of s is barred -/
def zn_ok (bs : List Nat) (s : Nat) : Prop := zy_dig s = true ∧ ∀ b ∈ bs, zy_st s b = true → b = s
theorem zn_Ds_bar {s r e : Nat} (hs : zy_dig s = true) (hb : bs.contains s = true) : ¬ zn_Ds bs s r e := fun ⟨h1, h2⟩ => by
  have := zn_sf_iff.mp h2 s (by simpa using hb)
  rw [zn_st_self hs h1] at this; cases this
theorem zn_Ds_free {s r e : Nat} (hs : zn_ok bs s) (hb : bs.contains s = false) (hl : zn_ld bs s = false ∨ r = 0) : zn_Ds bs s r e ↔ zn_d r e := by
  refine ⟨fun h => h.1, fun h => ⟨h, zn_sf_iff.mpr (fun b hbm => ?_)⟩⟩
  cases hz : zy_st (s * 7 ^ r + e) b with
  | false => rfl
  | true =>
    exfalso
    have hne : b ≠ s := fun q => by
      subst q
      have : bs.contains b = true := by simpa using hbm
      rw [this] at hb; cases hb
    by_cases hlen : zy_len b ≤ zy_len s
    · rw [zn_st_short hs.1 h hlen] at hz
      exact hne (hs.2 b hbm hz)
    · have hle := zn_st_len hz
      rw [(zn_join hs.1 h).2.1] at hle
      rcases hl with hl | hl
      · have := zn_st_long hs.1 h (by omega) hle hz
        have : zn_ld bs s = true := by unfold zn_ld; rw [List.any_eq_true]; exact ⟨b, hbm, this⟩
        rw [hl] at this; cases this
      · omega
theorem zn_ok_s {s x : Nat} (hs : zn_ok bs s) (hb : bs.contains s = false) (h1 : 1 ≤ x) (h6 : x ≤ 6) : zn_ok bs (s * 7 + x) := by
  have hx : zn_d 1 x := by
    have := (zn_cons (pr := fun _ => 0) h1 h6 0 0 (zn_d_0.mpr rfl)).1
    rw [Nat.pow_zero, Nat.mul_one, Nat.add_zero] at this
    exact this
  have hj := zn_join (r := 1) hs.1 hx
  rw [Nat.pow_one] at hj
  refine ⟨hj.1, fun b hbm hst => ?_⟩
  by_cases hlen : zy_len b ≤ zy_len s
  · have := zn_st_short (r := 1) hs.1 hx hlen
    rw [Nat.pow_one] at this
    rw [this] at hst
    have e := hs.2 b hbm hst
    subst e
    have : bs.contains b = true := by simpa using hbm
    rw [this] at hb; cases hb
  · have hle := zn_st_len hst
    rw [hj.2.1] at hle
    unfold zy_st at hst
    rw [decide_eq_true_eq, show zy_len b = zy_len (s * 7 + x) by rw [hj.2.1]; omega, zy_pf_self (Nat.le_refl _)] at hst
    exact hst.symm
theorem zn_pk_ok (hm : 1 ≤ many) : ∀ r s, r ≤ 5 → zn_ok bs s → zn_top (zn_k pr) (zn_lm q many r) (zn_rep pr q (zn_Ds bs s r)) (zn_pk pr q many bs r s) := by
  have emp : ∀ r s, zn_ok bs s → bs.contains s = true → zn_top (zn_k pr) (zn_lm q many r) (zn_rep pr q (zn_Ds bs s r)) [] := fun r s hs hb => ⟨List.Pairwise.nil, Nat.zero_le _, fun x hx => (by cases hx), fun e he => absurd he.1 (zn_Ds_bar hs.1 hb)⟩
  have free : ∀ r s, r ≤ 5 → zn_ok bs s → bs.contains s = false → (zn_ld bs s = false ∨ r = 0) → zn_top (zn_k pr) (zn_lm q many r) (zn_rep pr q (zn_Ds bs s r)) (zn_all (zn_k pr) (zn_lm q many r) [] (zn_any pr q many r)) := fun r s hr hs hb hl => by
    have h := zn_any_ok (pr := pr) (q := q) hm r hr
    rw [zn_all_nil h]
    exact zn_top_iff h (fun e => zn_rep_iff (fun e => (zn_Ds_free hs hb hl).symm) e)
  intro r
  induction r with
  | zero =>
    intro s hr hs
    rw [zn_pk]
    cases hb : bs.contains s with
    | true => rw [if_pos rfl]; exact emp 0 s hs hb
    | false => rw [if_neg (by decide)]; exact free 0 s hr hs hb (Or.inr rfl)
  | succ r ih =>
    intro s hr hs
    rw [zn_pk]
    cases hb : bs.contains s with
    | true => rw [if_pos rfl]; exact emp (r + 1) s hs hb
    | false =>
      rw [if_neg (by decide)]
      cases hl : zn_ld bs s with
      | false => rw [if_neg (by decide)]; exact free (r + 1) s hr hs hb (Or.inl hl)
      | true =>
        rw [if_pos rfl]
        have := zn_step (pr := pr) (q := q) (many := many) hr hm (D := fun x => zn_Ds bs (s * 7 + x) r) (fun x e _ _ h => h.1) (ch := fun x => zn_pk pr q many bs r (s * 7 + x)) (fun x a b => ih (s * 7 + x) (by omega) (zn_ok_s hs hb a b))
        exact zn_top_iff this (fun e => zn_rep_iff (fun e => zn_Ds_step) e)
/-! counting -/
def zn_lj (r : Nat) (l : List Nat) : Nat → List Nat
  | 0 => []
  | j + 1 => zn_lj r l j ++ l.map (fun e => (j + 1) * 7 ^ r + e)
def zn_ls : Nat → List Nat
  | 0 => [0]
  | r + 1 => zn_lj r (zn_ls r) 6
theorem zn_lj_mem {r : Nat} {l : List Nat} {e : Nat} : ∀ j, e ∈ zn_lj r l j ↔ ∃ x e1, 1 ≤ x ∧ x ≤ j ∧ e1 ∈ l ∧ e = x * 7 ^ r + e1
  | 0 => ⟨fun h => (by cases h), fun ⟨x, e1, a, b, _⟩ => (by omega)⟩
  | j + 1 => by
    rw [zn_lj, List.mem_append, zn_lj_mem j]
    constructor
    · rintro (⟨x, e1, a, b, c, d⟩ | h)
      · exact ⟨x, e1, a, by omega, c, d⟩
      · obtain ⟨e1, h1, h2⟩ := List.mem_map.mp h
        exact ⟨j + 1, e1, by omega, Nat.le_refl _, h1, h2.symm⟩
    · rintro ⟨x, e1, a, b, c, d⟩
      by_cases h : x = j + 1
      · subst h; exact Or.inr (List.mem_map.mpr ⟨e1, c, d.symm⟩)
      · exact Or.inl ⟨x, e1, a, by omega, c, d⟩
theorem zn_ls_mem : ∀ r e, e ∈ zn_ls r ↔ zn_d r e
  | 0, e => by rw [zn_ls, List.mem_singleton, zn_d_0]
  | r + 1, e => by
    rw [zn_ls, zn_lj_mem]
    constructor
    · rintro ⟨x, e1, a, b, c, rfl⟩; exact (zn_cons (pr := fun _ => 0) a b r e1 ((zn_ls_mem r e1).mp c)).1
    · intro h
      obtain ⟨x, e1, a, b, c, d⟩ := zn_uncons r e h
      exact ⟨x, e1, a, b, (zn_ls_mem r e1).mpr c, d⟩
theorem zn_ls_nd : ∀ r, (zn_ls r).Nodup
  | 0 => by rw [zn_ls]; simp
  | r + 1 => by
    have ih := zn_ls_nd r
    rw [zn_ls]
    have key : ∀ j, (zn_lj r (zn_ls r) j).Nodup := by
      intro j
      induction j with
      | zero => exact List.nodup_nil
      | succ j ihj =>
        rw [zn_lj, List.nodup_append]
        refine ⟨ihj, ?_, fun a ha b hb e => ?_⟩
        · rw [List.nodup_iff_pairwise_ne, List.pairwise_map]
          exact List.Pairwise.imp (fun hab e => hab (by omega)) ih
        · obtain ⟨x, e1, x1, x2, c, d⟩ := (zn_lj_mem j).mp ha
          obtain ⟨e2, h1, h2⟩ := List.mem_map.mp hb
          have l1 := zn_d_lt ((zn_ls_mem r e1).mp c)
          have l2 := zn_d_lt ((zn_ls_mem r e2).mp h1)
          have := (zn_blk l1 l2 (show x * 7 ^ r + e1 = (j + 1) * 7 ^ r + e2 by rw [← d, h2, e])).1
          omega
    exact key 6
theorem zn_ls_len : ∀ r, (zn_ls r).length = 6 ^ r
  | 0 => rfl
  | r + 1 => by
    have ih := zn_ls_len r
    rw [zn_ls]
    have key : ∀ j, (zn_lj r (zn_ls r) j).length = j * 6 ^ r := by
      intro j
      induction j with
      | zero => rw [Nat.zero_mul]; rfl
      | succ j ihj => rw [zn_lj, List.length_append, List.length_map, ihj, ih, Nat.add_mul, Nat.one_mul]
    rw [key 6, Nat.pow_succ, Nat.mul_comm]
theorem zn_flt_map {p : Nat → Bool} {f : Nat → Nat} : ∀ l : List Nat, ((l.map f).filter p).length = (l.filter (fun e => p (f e))).length
  | [] => rfl
  | x :: l => by
    rw [List.map_cons, List.filter_cons, List.filter_cons]
    split
    · rw [List.length_cons, List.length_cons, zn_flt_map l]
    · exact zn_flt_map l
theorem zn_cs_ok : ∀ r s, zn_ok bs s → zn_cs bs r s = ((zn_ls r).filter (fun e => zn_sf bs (s * 7 ^ r + e))).length := by
  have emp : ∀ r s, zn_ok bs s → bs.contains s = true → ((zn_ls r).filter (fun e => zn_sf bs (s * 7 ^ r + e))).length = 0 := fun r s hs hb => by
    rw [List.length_eq_zero_iff, List.filter_eq_nil_iff]
    intro e he h
    exact zn_Ds_bar hs.1 hb ⟨(zn_ls_mem r e).mp he, h⟩
  have free : ∀ r s, zn_ok bs s → bs.contains s = false → (zn_ld bs s = false ∨ r = 0) → ((zn_ls r).filter (fun e => zn_sf bs (s * 7 ^ r + e))).length = 6 ^ r := fun r s hs hb hl => by
    rw [← zn_ls_len r, List.length_filter_eq_length_iff]
    intro e he
    exact ((zn_Ds_free hs hb hl).mpr ((zn_ls_mem r e).mp he)).2
  intro r
  induction r with
  | zero =>
    intro s hs
    rw [zn_cs]
    cases hb : bs.contains s with
    | true => rw [if_pos rfl, emp 0 s hs hb]
    | false => rw [if_neg (by decide), free 0 s hs hb (Or.inr rfl)]
  | succ r ih =>
    intro s hs
    rw [zn_cs]
    cases hb : bs.contains s with
    | true => rw [if_pos rfl, emp (r + 1) s hs hb]
    | false =>
      rw [if_neg (by decide)]
      cases hl : zn_ld bs s with
      | false => rw [if_neg (by decide), free (r + 1) s hs hb (Or.inl hl)]
      | true =>
        rw [if_pos rfl]
        have one : ∀ x, 1 ≤ x → x ≤ 6 → zn_cs bs r (s * 7 + x) = (((zn_ls r).map (fun e => x * 7 ^ r + e)).filter (fun e => zn_sf bs (s * 7 ^ (r + 1) + e))).length := fun x a b => by
          rw [ih (s * 7 + x) (zn_ok_s hs hb a b), zn_flt_map]
          congr 1
          refine List.filter_congr (fun e _ => ?_)
          rw [Nat.pow_succ, Nat.add_mul, Nat.mul_assoc, Nat.mul_comm 7, Nat.add_assoc]
        rw [one 1 (by omega) (by omega), one 2 (by omega) (by omega), one 3 (by omega) (by omega), one 4 (by omega) (by omega), one 5 (by omega) (by omega), one 6 (by omega) (by omega)]
        rw [zn_ls, zn_lj, zn_lj, zn_lj, zn_lj, zn_lj, zn_lj, zn_lj]
        simp only [List.filter_append, List.length_append, List.filter_nil, List.length_nil, Nat.zero_add]
end ZM
