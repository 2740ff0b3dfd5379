/-! ===== new names: ends of names, their cost, the choice ===== -/
def zn_c (pr : Nat → Nat) (e : Nat) : Nat := if e = 0 then 0 else pr (e % 7) + zn_c pr (e / 7)
termination_by e
decreasing_by omega
def zn_k (pr : Nat → Nat) (e : Nat) : Nat := zn_c pr e * 16807 + e
def zn_d (r e : Nat) : Prop := zy_dig e = true ∧ zy_len e = r
theorem zn_c_0 {pr : Nat → Nat} : zn_c pr 0 = 0 := by rw [zn_c]; rfl
theorem zn_c_s {pr : Nat → Nat} {e : Nat} (h : e ≠ 0) : zn_c pr e = pr (e % 7) + zn_c pr (e / 7) := by rw [zn_c, if_neg h]
theorem zn_d_lt {r e : Nat} (h : zn_d r e) : e < 7 ^ r := (zy_len_lt r e).mp (by rw [h.2]; exact Nat.le_refl _)
theorem zn_d_0 {e : Nat} : zn_d 0 e ↔ e = 0 := ⟨fun h => zy_len_pos.mp h.2, fun h => by rw [h]; exact ⟨zy_dig_0, zy_len_0⟩⟩
theorem zn_cons {pr : Nat → Nat} {x : Nat} (h1 : 1 ≤ x) (h6 : x ≤ 6) : ∀ r e, zn_d r e → zn_d (r + 1) (x * 7 ^ r + e) ∧ zn_c pr (x * 7 ^ r + e) = pr x + zn_c pr e
  | 0, e, h => by
    rw [zn_d_0] at h
    subst h
    have e1 : x * 7 ^ 0 + 0 = x := by rw [Nat.pow_zero, Nat.mul_one, Nat.add_zero]
    have hd : x / 7 = 0 := by omega
    have hm : x % 7 = x := by omega
    rw [e1]
    refine ⟨⟨?_, ?_⟩, ?_⟩
    · rw [zy_dig_s (by omega), hd, hm, decide_eq_true (by omega), zy_dig_0]; rfl
    · rw [zy_len_s (by omega), hd, zy_len_0]
    · rw [zn_c_s (by omega), hd, hm]
  | r + 1, e, h => by
    have hl : zy_len e = r + 1 := h.2
    have e0 : e ≠ 0 := fun q => by rw [q, zy_len_0] at hl; omega
    have hd := h.1
    rw [zy_dig_s e0, Bool.and_eq_true, decide_eq_true_eq] at hd
    have h2 : zn_d r (e / 7) := ⟨hd.2, by rw [zy_len_s e0] at hl; omega⟩
    obtain ⟨⟨a1, a2⟩, a3⟩ := zn_cons (pr := pr) h1 h6 r (e / 7) h2
    have ep : x * 7 ^ (r + 1) + e = 7 * (x * 7 ^ r + e / 7) + e % 7 := by rw [Nat.pow_succ, ← Nat.mul_assoc]; omega
    generalize x * 7 ^ r + e / 7 = y at *
    have y0 : y ≠ 0 := fun q => by rw [q, zy_len_0] at a2; omega
    have k1 : (7 * y + e % 7) / 7 = y := by omega
    have k2 : (7 * y + e % 7) % 7 = e % 7 := by omega
    rw [ep]
    refine ⟨⟨?_, ?_⟩, ?_⟩
    · rw [zy_dig_s (by omega), k1, k2, a1, decide_eq_true hd.1]; rfl
    · rw [zy_len_s (by omega), k1, a2]
    · rw [zn_c_s (by omega), k1, k2, a3, zn_c_s (pr := pr) e0]; omega
theorem zn_uncons : ∀ r e, zn_d (r + 1) e → ∃ x e1, 1 ≤ x ∧ x ≤ 6 ∧ zn_d r e1 ∧ e = x * 7 ^ r + e1
  | 0, e, h => by
    have hl : zy_len e = 1 := h.2
    have hlt := zn_d_lt h
    have e0 : e ≠ 0 := fun q => by rw [q, zy_len_0] at hl; omega
    exact ⟨e, 0, by omega, by simp at hlt; omega, zn_d_0.mpr rfl, by rw [Nat.pow_zero, Nat.mul_one, Nat.add_zero]⟩
  | r + 1, e, h => by
    have hl : zy_len e = r + 1 + 1 := h.2
    have e0 : e ≠ 0 := fun q => by rw [q, zy_len_0] at hl; omega
    have hd := h.1
    rw [zy_dig_s e0, Bool.and_eq_true, decide_eq_true_eq] at hd
    obtain ⟨x, e1, a1, a2, a3, a4⟩ := zn_uncons r (e / 7) ⟨hd.2, by rw [zy_len_s e0] at hl; omega⟩
    have hm : e % 7 < 7 := Nat.mod_lt _ (by omega)
    refine ⟨x, 7 * e1 + e % 7, a1, a2, ⟨?_, ?_⟩, ?_⟩
    · rw [zy_dig_s (by omega), show (7 * e1 + e % 7) / 7 = e1 by omega, show (7 * e1 + e % 7) % 7 = e % 7 by omega, a3.1, decide_eq_true hd.1]; rfl
    · rw [zy_len_s (by omega), show (7 * e1 + e % 7) / 7 = e1 by omega, a3.2]
    · rw [Nat.pow_succ, ← Nat.mul_assoc]; omega
section ZK
variable {pr : Nat → Nat} {q many : Nat}
theorem zn_k_sh {x r e : Nat} (h1 : 1 ≤ x) (h6 : x ≤ 6) (h : zn_d r e) : zn_k pr (x * 7 ^ r + e) = zn_k pr e + (pr x * 16807 + x * 7 ^ r) := by
  unfold zn_k
  rw [(zn_cons (pr := pr) h1 h6 r e h).2, Nat.add_mul]; omega
theorem zn_k_inj {a b : Nat} (ha : a < 16807) (hb : b < 16807) (h : zn_k pr a = zn_k pr b) : a = b := by
  unfold zn_k at h; omega
theorem zn_pow5 {r : Nat} (h : r ≤ 5) : 7 ^ r ≤ 16807 := Nat.le_trans (Nat.pow_le_pow_right (by omega) h) (by decide)
def zn_rep (pr : Nat → Nat) (q : Nat) (D : Nat → Prop) : Nat → Prop := fun e => D e ∧ ∀ e', D e' → e' / 7 ^ q = e / 7 ^ q → zn_k pr e ≤ zn_k pr e'
def zn_lm (q many r : Nat) : Nat := if r ≤ q then 1 else many
/-- ends that begin with the letters 1 .. j -/
def zn_st (pr : Nat → Nat) (L r : Nat) (ch : Nat → List Nat) : Nat → List Nat
  | 0 => []
  | j + 1 => zn_all (zn_k pr) L (zn_st pr L r ch j) ((ch (j + 1)).map (fun e => (j + 1) * 7 ^ r + e))
/-- one letter ahead of each -/
def zn_D (r : Nat) (D : Nat → Nat → Prop) (j : Nat) : Nat → Prop := fun e => ∃ x e1, 1 ≤ x ∧ x ≤ j ∧ e = x * 7 ^ r + e1 ∧ D x e1
theorem zn_D_s {r j : Nat} {D : Nat → Nat → Prop} {e : Nat} : zn_D r D (j + 1) e ↔ zn_D r D j e ∨ ∃ e1, e = (j + 1) * 7 ^ r + e1 ∧ D (j + 1) e1 := by
  constructor
  · rintro ⟨x, e1, a, b, c, d⟩
    by_cases h : x = j + 1
    · subst h; exact Or.inr ⟨e1, c, d⟩
    · exact Or.inl ⟨x, e1, a, by omega, c, d⟩
  · rintro (⟨x, e1, a, b, c, d⟩ | ⟨e1, c, d⟩)
    · exact ⟨x, e1, a, by omega, c, d⟩
    · exact ⟨j + 1, e1, by omega, Nat.le_refl _, c, d⟩
theorem zn_blk {r x y a b : Nat} (ha : a < 7 ^ r) (hb : b < 7 ^ r) (h : x * 7 ^ r + a = y * 7 ^ r + b) : x = y ∧ a = b := by
  have e1 : (x * 7 ^ r + a) / 7 ^ r = x := by rw [Nat.mul_comm, Nat.mul_add_div (Nat.pow_pos (by omega)), Nat.div_eq_of_lt ha]; rfl
  have e2 : (y * 7 ^ r + b) / 7 ^ r = y := by rw [Nat.mul_comm, Nat.mul_add_div (Nat.pow_pos (by omega)), Nat.div_eq_of_lt hb]; rfl
  rw [h, e2] at e1
  subst e1
  exact ⟨rfl, by omega⟩
/-- a first list of a set of equal ones is all of it -/
theorem zn_top_1 {S : Nat → Prop} {xs : List Nat} (h : zn_top (zn_k pr) 1 S xs) (hS : ∀ a b, S a → S b → zn_k pr a ≤ zn_k pr b) {L : Nat} (hL : 1 ≤ L) : zn_top (zn_k pr) L S xs := by
  obtain ⟨h1, h2, h3, h4⟩ := h
  refine ⟨h1, by omega, h3, fun s hs => Or.inl ?_⟩
  rcases h4 s hs with z | ⟨z1, z2⟩
  · exact z
  · cases xs with
    | nil => simp at z1
    | cons x xs =>
      have := z2 x List.mem_cons_self
      have := hS s x hs (h3 x List.mem_cons_self)
      omega
theorem zn_step {r : Nat} (hr : r + 1 ≤ 5) (hm : 1 ≤ many) {D : Nat → Nat → Prop} (hD : ∀ x e, 1 ≤ x → x ≤ 6 → D x e → zn_d r e) {ch : Nat → List Nat} (hch : ∀ x, 1 ≤ x → x ≤ 6 → zn_top (zn_k pr) (zn_lm q many r) (zn_rep pr q (D x)) (ch x)) :
    zn_top (zn_k pr) (zn_lm q many (r + 1)) (zn_rep pr q (zn_D r D 6)) (zn_st pr (zn_lm q many (r + 1)) r ch 6) := by
  have hp5 : 7 ^ (r + 1) ≤ 16807 := zn_pow5 hr
  rw [Nat.pow_succ] at hp5
  have lt16 : ∀ x e, 1 ≤ x → x ≤ 6 → D x e → e < 7 ^ r ∧ x * 7 ^ r + e < 16807 := fun x e a b c => by
    have h1 := zn_d_lt (hD x e a b c)
    have : x * 7 ^ r ≤ 6 * 7 ^ r := Nat.mul_le_mul_right _ b
    omega
  have hL1 : 1 ≤ zn_lm q many (r + 1) := by unfold zn_lm; split <;> omega
  -- the children's lists as first lists of the same length
  have hch2 : ∀ x, 1 ≤ x → x ≤ 6 → zn_top (zn_k pr) (zn_lm q many (r + 1)) (zn_rep pr q (D x)) (ch x) := fun x a b => by
    have h := hch x a b
    unfold zn_lm at h ⊢
    by_cases z : r + 1 ≤ q
    · rw [if_pos (by omega)] at h
      rw [if_pos z]; exact h
    · rw [if_neg z]
      by_cases z2 : r ≤ q
      · rw [if_pos z2] at h
        have eq : q = r := by omega
        refine zn_top_1 h (fun u v hu hv => ?_) hm
        have l1 := (lt16 x u a b hu.1).1
        have l2 := (lt16 x v a b hv.1).1
        exact hu.2 v hv.1 (by rw [eq, Nat.div_eq_of_lt l1, Nat.div_eq_of_lt l2])
      · rw [if_neg z2] at h; exact h
  generalize hLL : zn_lm q many (r + 1) = L at *
  -- shifted
  have shf : ∀ x, 1 ≤ x → x ≤ 6 → zn_top (zn_k pr) L (fun e => ∃ e1, e = x * 7 ^ r + e1 ∧ zn_rep pr q (D x) e1) ((ch x).map (fun e => x * 7 ^ r + e)) := fun x a b => by
    obtain ⟨h1, h2, h3, h4⟩ := hch2 x a b
    have ks : ∀ e, zn_rep pr q (D x) e → zn_k pr (x * 7 ^ r + e) = zn_k pr e + (pr x * 16807 + x * 7 ^ r) := fun e he => zn_k_sh a b (hD x e a b he.1)
    refine ⟨?_, by rw [List.length_map]; exact h2, fun y hy => ?_, fun s hs => ?_⟩
    · rw [List.pairwise_map]
      refine List.Pairwise.imp_of_mem ?_ h1
      intro u v hu hv huv
      rw [ks u (h3 u hu), ks v (h3 v hv)]; omega
    · obtain ⟨e, he, rfl⟩ := List.mem_map.mp hy
      exact ⟨e, rfl, h3 e he⟩
    · obtain ⟨e1, rfl, he⟩ := hs
      rcases h4 e1 he with z | ⟨z1, z2⟩
      · exact Or.inl (List.mem_map.mpr ⟨e1, z, rfl⟩)
      · refine Or.inr ⟨by rw [List.length_map]; exact z1, fun y hy => ?_⟩
        obtain ⟨e, hm2, rfl⟩ := List.mem_map.mp hy
        rw [ks e (h3 e hm2), ks e1 he]
        have := z2 e hm2
        omega
  have loop : ∀ j, j ≤ 6 → zn_top (zn_k pr) L (zn_D r (fun x => zn_rep pr q (D x)) j) (zn_st pr L r ch j) := by
    intro j
    induction j with
    | zero => intro _; exact ⟨List.Pairwise.nil, Nat.zero_le _, fun x hx => (by cases hx), fun s ⟨x, e1, a, b, _⟩ => (by omega)⟩
    | succ j ih =>
      intro hj
      have hs := shf (j + 1) (by omega) hj
      have apart : ∀ e, (∃ e1, e = (j + 1) * 7 ^ r + e1 ∧ zn_rep pr q (D (j + 1)) e1) → ∀ s, zn_D r (fun x => zn_rep pr q (D x)) j s → zn_k pr s ≠ zn_k pr e := by
        rintro e ⟨e1, rfl, h1⟩ s ⟨x, e2, a, b, rfl, h2⟩ hk
        have l1 := lt16 (j + 1) e1 (by omega) hj h1.1
        have l2 := lt16 x e2 a (by omega) h2.1
        have := zn_k_inj l2.2 l1.2 hk
        have := (zn_blk l2.1 l1.1 this).1
        omega
      rw [zn_st]
      have t1 := zn_top_all (ih (by omega)) _ hs.1 (fun e he h => apart e (hs.2.2.1 e he) e h rfl) (fun e he s h => apart e (hs.2.2.1 e he) s h)
      have t2 := zn_top_more t1 hs (fun e he s h => apart e he s h)
      exact zn_top_iff t2 (fun e => (zn_D_s (D := fun x => zn_rep pr q (D x))).symm)
  have fin := loop 6 (Nat.le_refl _)
  by_cases z : q ≤ r
  · -- classes lie within one first letter
    refine zn_top_iff fin (fun e => ?_)
    obtain ⟨m, hm2⟩ : ∃ m, r = q + m := ⟨r - q, by omega⟩
    have cl : ∀ x e1, e1 < 7 ^ r → (x * 7 ^ r + e1) / 7 ^ q = x * 7 ^ m + e1 / 7 ^ q ∧ e1 / 7 ^ q < 7 ^ m := fun x e1 h => by
      rw [hm2, Nat.pow_add] at h ⊢
      have e2 : x * (7 ^ q * 7 ^ m) = 7 ^ q * (x * 7 ^ m) := by rw [Nat.mul_left_comm]
      rw [e2, Nat.mul_add_div (Nat.pow_pos (by omega))]
      exact ⟨rfl, (Nat.div_lt_iff_lt_mul (Nat.pow_pos (by omega))).mpr (by rw [Nat.mul_comm]; exact h)⟩
    constructor
    · rintro ⟨x, e1, a, b, rfl, h1, h2⟩
      refine ⟨⟨x, e1, a, b, rfl, h1⟩, ?_⟩
      rintro e' ⟨y, e2, a', b', rfl, h3⟩ hc
      have l1 := (lt16 x e1 a b h1).1
      have l2 := (lt16 y e2 a' b' h3).1
      obtain ⟨c1, c2⟩ := cl x e1 l1
      obtain ⟨c3, c4⟩ := cl y e2 l2
      rw [c1, c3] at hc
      obtain ⟨rfl, hc2⟩ := zn_blk c4 c2 hc
      rw [zn_k_sh a b (hD y e1 a b h1), zn_k_sh a b (hD y e2 a b h3)]
      have := h2 e2 h3 hc2
      omega
    · rintro ⟨⟨x, e1, a, b, rfl, h1⟩, h2⟩
      refine ⟨x, e1, a, b, rfl, h1, fun e2 h3 hc => ?_⟩
      have l1 := (lt16 x e1 a b h1).1
      have l2 := (lt16 x e2 a b h3).1
      have := h2 (x * 7 ^ r + e2) ⟨x, e2, a, b, rfl, h3⟩ (by rw [(cl x e1 l1).1, (cl x e2 l2).1, hc])
      rw [zn_k_sh a b (hD x e1 a b h1), zn_k_sh a b (hD x e2 a b h3)] at this
      omega
  · -- all are one class: only the first counts
    have hL : L = 1 := by rw [← hLL]; unfold zn_lm; rw [if_pos (by omega)]
    subst hL
    have hle : 7 ^ (r + 1) ≤ 7 ^ q := Nat.pow_le_pow_right (by omega) (by omega)
    have hler : 7 ^ r ≤ 7 ^ q := Nat.pow_le_pow_right (by omega) (by omega)
    have bnd : ∀ x e, 1 ≤ x → x ≤ 6 → D x e → x * 7 ^ r + e < 7 ^ q := fun x e a b c => by
      have h1 := (lt16 x e a b c).1
      have : x * 7 ^ r ≤ 6 * 7 ^ r := Nat.mul_le_mul_right _ b
      rw [Nat.pow_succ] at hle
      omega
    -- below each of the whole stands one of the children's first
    have below : ∀ e, zn_D r D 6 e → ∃ t, zn_D r (fun x => zn_rep pr q (D x)) 6 t ∧ zn_k pr t ≤ zn_k pr e := by
      rintro e ⟨x, e1, a, b, rfl, h1⟩
      obtain ⟨k, ⟨e2, h2, rfl⟩, hmin⟩ := pk_least (fun k => ∃ e2, D x e2 ∧ zn_k pr e2 = k) ⟨_, e1, h1, rfl⟩
      refine ⟨x * 7 ^ r + e2, ⟨x, e2, a, b, rfl, h2, fun e3 h3 _ => ?_⟩, ?_⟩
      · by_cases w : zn_k pr e2 ≤ zn_k pr e3
        · exact w
        · exact absurd ⟨e3, h3, rfl⟩ (hmin (zn_k pr e3) (by omega))
      · rw [zn_k_sh a b (hD x e1 a b h1), zn_k_sh a b (hD x e2 a b h2)]
        by_cases w : zn_k pr e2 ≤ zn_k pr e1
        · omega
        · exact absurd ⟨e1, h1, rfl⟩ (hmin (zn_k pr e1) (by omega))
    obtain ⟨h1, h2, h3, h4⟩ := fin
    have sub : ∀ e, zn_D r (fun x => zn_rep pr q (D x)) 6 e → zn_D r D 6 e := by
      rintro e ⟨x, e1, a, b, c, d⟩
      exact ⟨x, e1, a, b, c, d.1⟩
    refine ⟨h1, h2, fun x hx => ⟨sub x (h3 x hx), fun e' he' _ => ?_⟩, fun s hs => ?_⟩
    · obtain ⟨t, ht1, ht2⟩ := below e' he'
      rcases h4 t ht1 with w | ⟨w1, w2⟩
      · cases hxs : (zn_st pr 1 r ch 6) with
        | nil => rw [hxs] at hx; cases hx
        | cons y ys =>
          rw [hxs] at hx w h2
          have : ys = [] := by
            cases ys with
            | nil => rfl
            | cons _ _ => simp at h2
          subst this
          have e1 : x = y := by simpa using hx
          have e2 : t = y := by simpa using w
          rw [e1, ← e2]; exact ht2
      · exact Nat.le_trans (Nat.le_of_lt (w2 x hx)) ht2
    · obtain ⟨t, ht1, ht2⟩ := below s hs.1
      have hst : zn_k pr s ≤ zn_k pr t := by
        obtain ⟨x, e1, a, b, rfl, d⟩ := hs.1
        obtain ⟨y, e2, a', b', rfl, d'⟩ := ht1
        refine hs.2 _ (sub _ ⟨y, e2, a', b', rfl, d'⟩) ?_
        rw [Nat.div_eq_of_lt (bnd x e1 a b d), Nat.div_eq_of_lt (bnd y e2 a' b' d'.1)]
      have hk : zn_k pr s = zn_k pr t := by omega
      obtain ⟨x, e1, a, b, c, d⟩ := hs.1
      obtain ⟨y, e2, a', b', c', d'⟩ := ht1
      have est : s = t := zn_k_inj (by rw [c]; exact (lt16 x e1 a b d).2) (by rw [c']; exact (lt16 y e2 a' b' d'.1).2) hk
      rw [est]
      exact h4 t ⟨y, e2, a', b', c', d'⟩
end ZK
