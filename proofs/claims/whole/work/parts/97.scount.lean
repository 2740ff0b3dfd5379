/-! ===== search: what is counted multiplies ===== -/
def zg_pr (g : Nat → Nat) : Nat → Nat
  | 0 => 1
  | n + 1 => zg_pr g n * g n
theorem zg_pr_cong {g h : Nat → Nat} : ∀ {n : Nat}, (∀ i, i < n → g i = h i) → zg_pr g n = zg_pr h n
  | 0, _ => rfl
  | n + 1, e => by rw [zg_pr, zg_pr, zg_pr_cong (n := n) (fun i hi => e i (by omega)), e n (by omega)]
theorem zh_fl {F : Nat → List Nat} {k : Nat} : ∀ {l : List Nat}, (∀ a, a ∈ l → (F a).length = k) → (l.flatMap F).length = l.length * k
  | [], _ => by rw [List.flatMap_nil, List.length_nil, Nat.zero_mul]
  | a :: l, h => by
    rw [List.flatMap_cons, List.length_append, h a List.mem_cons_self, zh_fl (fun x hx => h x (List.mem_cons_of_mem _ hx)), List.length_cons, Nat.add_mul]
    omega
theorem zy_cnt_len {p : Nat → Bool} : ∀ n, zy_cnt p n = ((List.range n).filter p).length
  | 0 => rfl
  | n + 1 => by
    rw [zy_cnt, zy_cnt_len n, List.range_succ, List.filter_append, List.length_append]
    cases e : p n with
    | true => rw [List.filter_cons_of_pos e]; rfl
    | false => rw [List.filter_cons_of_neg (by rw [e]; decide)]; rfl
theorem zh_nd {s : Nat → Nat} {n : Nat} {p : Nat → Bool} (hu : ∀ i k, i < n → k < n → s i = s k → i = k) : (((List.range n).filter p).map s).Nodup := by
  refine List.pairwise_map.mpr ?_
  have h1 : ((List.range n).filter p).Pairwise (fun a b => a ≠ b) := List.Pairwise.filter p List.nodup_range
  refine List.Pairwise.imp_of_mem (fun {a b} ha hb hne e => ?_) h1
  exact hne (hu a b (List.mem_range.mp (List.mem_filter.mp ha).1) (List.mem_range.mp (List.mem_filter.mp hb).1) e)
/-- group m of u, the others of t -/
def zh_ml (P : Nat) (gr : Nat → Nat) (m t u : Nat) : Nat := zg_c P (fun p => if gr p = m then zg_d u p else zg_d t p)
def zh_L (f : Nat → Nat) (P : Nat) (gr : Nat → Nat) (zs : Nat → List Nat) : Nat → List Nat
  | 0 => [zg_st f P]
  | m + 1 => (zh_L f P gr zs m).flatMap (fun t => (zs m).map (fun u => zh_ml P gr m t u))
section HC
variable {f gr : Nat → Nat} {P b G m : Nat} {t u : Nat} {zs : Nat → List Nat}
theorem zh_ml_ok (hf : ∀ p, p < P → zy_len (f p) ≤ 8) (hS : zg_S f P t) (hU : zg_S f P u) : zg_S f P (zh_ml P gr m t u) ∧ ∀ p, p < P → zg_d (zh_ml P gr m t u) p = if gr p = m then zg_d u p else zg_d t p :=
  zh_mix_lt (fun p hp => by
    have := hS.2 p hp
    have := hU.2 p hp
    split <;> omega) hf
theorem zh_ml_m (hf : ∀ p, p < P → zy_len (f p) ≤ 8) (hS : zg_S f P t) (hU : zg_S f P u) : zh_pj f P gr m (zh_ml P gr m t u) = zh_pj f P gr m u := by
  obtain ⟨a, b⟩ := zh_ml_ok (gr := gr) (m := m) hf hS hU
  refine zg_ext (zh_pj_S hf a).1 (zh_pj_S hf hU).1 (fun p hp => ?_)
  rw [zh_pj_d hf hp, zh_pj_d hf hp]
  by_cases e : gr p = m
  · rw [if_pos e, if_pos e, b p hp, if_pos e]
  · rw [if_neg e, if_neg e]
theorem zh_ml_o (hf : ∀ p, p < P → zy_len (f p) ≤ 8) (hS : zg_S f P t) (hU : zg_S f P u) {g : Nat} (hg : g ≠ m) : zh_pj f P gr g (zh_ml P gr m t u) = zh_pj f P gr g t := by
  obtain ⟨a, b⟩ := zh_ml_ok (gr := gr) (m := m) hf hS hU
  refine zg_ext (zh_pj_S hf a).1 (zh_pj_S hf hS).1 (fun p hp => ?_)
  rw [zh_pj_d hf hp, zh_pj_d hf hp]
  by_cases e : gr p = g
  · rw [if_pos e, if_pos e, b p hp, if_neg (by omega)]
  · rw [if_neg e, if_neg e]
theorem zh_L_mem (hf : ∀ p, p < P → zy_len (f p) ≤ 8) (hG : zh_G f P G gr) (hz : ∀ g, g < G → ∀ u, u ∈ zs g → zg_S f P u ∧ zh_pj f P gr g u = u) : ∀ m, m ≤ G → ∀ t, t ∈ zh_L f P gr zs m ↔ zg_S f P t ∧ (∀ g, g < m → zh_pj f P gr g t ∈ zs g) ∧ ∀ g, m ≤ g → g < G → zh_pj f P gr g t = zg_st f P := by
  intro m
  induction m with
  | zero =>
    intro _ t
    rw [zh_L, List.mem_singleton]
    constructor
    · intro e
      rw [e]
      exact ⟨zg_st_S hf, fun g hg => by omega, fun g _ _ => zh_pj_st hf⟩
    · rintro ⟨h1, -, h3⟩
      exact zh_jn_pj hf hG h1 (zg_st_S hf) (fun g hg => by rw [h3 g (by omega) hg, zh_pj_st hf])
  | succ m ih =>
    intro hm t
    rw [zh_L, List.mem_flatMap]
    constructor
    · rintro ⟨t0, h0, ht⟩
      obtain ⟨u, hu, e⟩ := List.mem_map.mp ht
      obtain ⟨a1, a2, a3⟩ := (ih (by omega) t0).mp h0
      obtain ⟨u1, u2⟩ := hz m (by omega) u hu
      rw [← e]
      refine ⟨(zh_ml_ok hf a1 u1).1, fun g hg => ?_, fun g hg hgG => ?_⟩
      · by_cases z : g = m
        · rw [z, zh_ml_m hf a1 u1, u2]; exact hu
        · rw [zh_ml_o hf a1 u1 z]; exact a2 g (by omega)
      · rw [zh_ml_o hf a1 u1 (by omega)]; exact a3 g (by omega) hgG
    · rintro ⟨h1, h2, h3⟩
      have sS := zg_st_S (f := f) (P := P) hf
      obtain ⟨b1, b2⟩ := zh_ml_ok (gr := gr) (m := m) hf h1 sS
      have pS := zh_pj_S (gr := gr) (g := m) hf h1
      refine ⟨zh_ml P gr m t (zg_st f P), (ih (by omega) _).mpr ⟨b1, fun g hg => ?_, fun g hg hgG => ?_⟩, List.mem_map.mpr ⟨zh_pj f P gr m t, h2 m (by omega), ?_⟩⟩
      · rw [zh_ml_o hf h1 sS (by omega)]; exact h2 g (by omega)
      · by_cases z : g = m
        · rw [z, zh_ml_m hf h1 sS, zh_pj_st hf]
        · rw [zh_ml_o hf h1 sS z]; exact h3 g (by omega) hgG
      · obtain ⟨c1, c2⟩ := zh_ml_ok (gr := gr) (m := m) hf b1 pS
        refine zg_ext c1.1 h1.1 (fun p hp => ?_)
        rw [c2 p hp, b2 p hp, zh_pj_d hf hp]
        by_cases e : gr p = m
        · rw [if_pos e, if_pos e]
        · rw [if_neg e, if_neg e]
theorem zh_L_len : ∀ m, (zh_L f P gr zs m).length = zg_pr (fun g => (zs g).length) m
  | 0 => rfl
  | m + 1 => by rw [zh_L, zh_fl (k := (zs m).length) (fun a _ => List.length_map _), zh_L_len m, zg_pr]
theorem zh_L_nd (hf : ∀ p, p < P → zy_len (f p) ≤ 8) (hG : zh_G f P G gr) (hz : ∀ g, g < G → ∀ u, u ∈ zs g → zg_S f P u ∧ zh_pj f P gr g u = u) (hn : ∀ g, g < G → (zs g).Nodup) : ∀ m, m ≤ G → (zh_L f P gr zs m).Nodup := by
  intro m
  induction m with
  | zero => intro _; rw [zh_L]; exact List.nodup_cons.mpr ⟨fun h => (by cases h), List.nodup_nil⟩
  | succ m ih =>
    intro hm
    rw [zh_L]
    have tm : ∀ t, t ∈ zh_L f P gr zs m → zg_S f P t ∧ zh_pj f P gr m t = zg_st f P := fun t ht => by
      obtain ⟨a1, -, a3⟩ := (zh_L_mem hf hG hz m (by omega) t).mp ht
      exact ⟨a1, a3 m (Nat.le_refl _) (by omega)⟩
    refine List.pairwise_flatMap.mpr ⟨fun t ht => ?_, ?_⟩
    · refine List.pairwise_map.mpr (List.Pairwise.imp_of_mem (fun {a b} ha hb hne e => ?_) (hn m (by omega)))
      obtain ⟨a1, a2⟩ := hz m (by omega) a ha
      obtain ⟨b1, b2⟩ := hz m (by omega) b hb
      have e := congrArg (zh_pj f P gr m) e
      rw [zh_ml_m hf (tm t ht).1 a1, zh_ml_m hf (tm t ht).1 b1, a2, b2] at e
      exact hne e
    · refine List.Pairwise.imp_of_mem (fun {a b} ha hb hne x hx y hy e => ?_) (ih (by omega))
      obtain ⟨ua, hua, ea⟩ := List.mem_map.mp hx
      obtain ⟨ub, hub, eb⟩ := List.mem_map.mp hy
      obtain ⟨a1, a2⟩ := tm a ha
      obtain ⟨b1, b2⟩ := tm b hb
      have s1 := (hz m (by omega) ua hua).1
      have s2 := (hz m (by omega) ub hub).1
      rw [← ea, ← eb] at e
      refine hne (zh_jn_pj hf hG a1 b1 (fun g hg => ?_))
      by_cases z : g = m
      · rw [z, a2, b2]
      · have e := congrArg (zh_pj f P gr g) e
        rw [zh_ml_o hf a1 s1 z, zh_ml_o hf b1 s2 z] at e
        exact e
end HC
section HD
variable {f gr : Nat → Nat} {P b G n : Nat} {s c : Nat → Nat} {ns : Nat → Nat} {ss cs : Nat → Nat → Nat}
/-- whole and groups -/
def zh_TT (f : Nat → Nat) (P b G : Nat) (gr : Nat → Nat) (n : Nat) (s c : Nat → Nat) (ns : Nat → Nat) (ss cs : Nat → Nat → Nat) : Prop :=
  (∀ p, p < P → zy_len (f p) ≤ 8) ∧ zh_G f P G gr ∧ zh_T f P b (fun _ => true) n s c ∧ ∀ g, g < G → zh_T f P b (zh_A gr g) (ns g) (ss g) (cs g)
theorem zh_TT_V (h : zh_TT f P b G gr n s c ns ss cs) {g r : Nat} (hg : g < G) (hr : r < ns g) : zh_V f P b (zh_A gr g) (ss g r) :=
  zh_W_V h.1 (zh_sat_A h.2.1) ((h.2.2.2 g hg).2.1 r hr).2
theorem zh_r_ex (h : zh_TT f P b G gr n s c ns ss cs) {i g : Nat} (hi : i < n) (hg : g < G) : ∃ r, r < ns g ∧ ss g r = zh_pj f P gr g (s i) := by
  obtain ⟨hf, hG, hT, hg'⟩ := h
  obtain ⟨ks, -, k2⟩ := zh_W_pj hf hG (zg_st_S hf) (hT.2.1 i hi).2
  have := k2 g hg
  rw [zh_pj_st hf] at this
  obtain ⟨r, r1, r2, -⟩ := (hg' g hg).2.2 _ _ this
  exact ⟨r, r1, r2⟩
theorem zh_i_ex (h : zh_TT f P b G gr n s c ns ss cs) {r : Nat → Nat} (hr : ∀ g, g < G → r g < ns g) : ∃ i, i < n ∧ ∀ g, g < G → zh_pj f P gr g (s i) = ss g (r g) := by
  obtain ⟨hf, hG, hT, hg'⟩ := id h
  obtain ⟨j1, j2⟩ := zh_jn_ok (gr := gr) (G := G) (τ := fun g => ss g (r g)) hf (fun g hg => zh_TT_V h hg (hr g hg))
  have w := zh_W_join hf hG (zg_st_S hf) j1 (b := b) (ks := fun g => cs g (r g)) (fun g hg => by
    rw [zh_pj_st hf, j2 g hg]
    exact ((hg' g hg).2.1 (r g) (hr g hg)).2)
  obtain ⟨i, i1, i2, -⟩ := hT.2.2 _ _ w
  exact ⟨i, i1, fun g hg => by rw [i2]; exact j2 g hg⟩
/-- fewest calls add -/
theorem zh_c_sum (h : zh_TT f P b G gr n s c ns ss cs) {i : Nat} {r : Nat → Nat} (hi : i < n) (hr : ∀ g, g < G → r g < ns g ∧ ss g (r g) = zh_pj f P gr g (s i)) : c i = zg_sm (fun g => cs g (r g)) G := by
  obtain ⟨hf, hG, hT, hg'⟩ := id h
  have iS := (hT.2.1 i hi).1
  have w := zh_W_join hf hG (zg_st_S hf) iS (b := b) (ks := fun g => cs g (r g)) (fun g hg => by
    rw [zh_pj_st hf, ← (hr g hg).2]
    exact ((hg' g hg).2.1 (r g) (hr g hg).1).2)
  obtain ⟨i', i1, i2, i3⟩ := hT.2.2 _ _ w
  rw [hT.1 i' i i1 hi i2] at i3
  obtain ⟨ks, k1, k2⟩ := zh_W_pj hf hG (zg_st_S hf) (hT.2.1 i hi).2
  have le : zg_sm (fun g => cs g (r g)) G ≤ zg_sm ks G := zg_sm_le (fun g hg => by
    have := k2 g hg
    rw [zh_pj_st hf] at this
    obtain ⟨j, j1, j2, j3⟩ := (hg' g hg).2.2 _ _ this
    have := (hg' g hg).1 j (r g) j1 (hr g hg).1 (by rw [j2, (hr g hg).2])
    rw [this] at j3
    exact j3)
  omega
/-- counts multiply -/
theorem zh_count (h : zh_TT f P b G gr n s c ns ss cs) {Q : Nat → Bool} {q : Nat → Nat → Bool} (hQ : ∀ i, i < n → (Q (s i) = true ↔ ∀ g, g < G → q g (zh_pj f P gr g (s i)) = true)) : zy_cnt (fun i => Q (s i)) n = zg_pr (fun g => zy_cnt (fun j => q g (ss g j)) (ns g)) G := by
  obtain ⟨hf, hG, hT, hg'⟩ := id h
  have zmem : ∀ g u, u ∈ ((List.range (ns g)).filter (fun j => q g (ss g j))).map (ss g) ↔ ∃ j, j < ns g ∧ q g u = true ∧ ss g j = u := fun g u => by
    rw [List.mem_map]
    constructor
    · rintro ⟨j, hj, e⟩
      obtain ⟨j1, j2⟩ := List.mem_filter.mp hj
      exact ⟨j, List.mem_range.mp j1, by rw [← e]; exact j2, e⟩
    · rintro ⟨j, j1, j2, e⟩
      exact ⟨j, List.mem_filter.mpr ⟨List.mem_range.mpr j1, by rw [e]; exact j2⟩, e⟩
  have hz : ∀ g, g < G → ∀ u, u ∈ ((List.range (ns g)).filter (fun j => q g (ss g j))).map (ss g) → zg_S f P u ∧ zh_pj f P gr g u = u := fun g hg u hu => by
    obtain ⟨j, j1, -, e⟩ := (zmem g u).mp hu
    have := zh_TT_V h hg j1
    rw [e] at this
    exact ⟨this.1, zh_pj_self hf this⟩
  have hn : ∀ g, g < G → (((List.range (ns g)).filter (fun j => q g (ss g j))).map (ss g)).Nodup := fun g hg => zh_nd (hg' g hg).1
  have nd1 := zh_L_nd hf hG hz hn G (Nat.le_refl _)
  have nd2 := zh_nd (p := fun i => Q (s i)) hT.1
  have mem1 := zh_L_mem hf hG hz G (Nat.le_refl _)
  have same : ∀ t, t ∈ zh_L f P gr (fun g => ((List.range (ns g)).filter (fun j => q g (ss g j))).map (ss g)) G ↔ t ∈ ((List.range n).filter (fun i => Q (s i))).map s := fun t => by
    rw [mem1 t, List.mem_map]
    constructor
    · rintro ⟨t1, t2, -⟩
      have ex : ∀ g, ∃ j, g < G → j < ns g ∧ ss g j = zh_pj f P gr g t := fun g => by
        by_cases z : g < G
        · obtain ⟨j, j1, -, j3⟩ := (zmem g _).mp (t2 g z)
          exact ⟨j, fun _ => ⟨j1, j3⟩⟩
        · exact ⟨0, fun q => absurd q z⟩
      have er : ∃ r : Nat → Nat, ∀ g, g < G → r g < ns g ∧ ss g (r g) = zh_pj f P gr g t := ⟨fun g => Classical.choose (ex g), fun g hg => Classical.choose_spec (ex g) hg⟩
      obtain ⟨r, hr⟩ := er
      obtain ⟨i, i1, i2⟩ := zh_i_ex h (r := r) (fun g hg => (hr g hg).1)
      have e : s i = t := zh_jn_pj hf hG (hT.2.1 i i1).1 t1 (fun g hg => by rw [i2 g hg, (hr g hg).2])
      refine ⟨i, List.mem_filter.mpr ⟨List.mem_range.mpr i1, (hQ i i1).mpr (fun g hg => ?_)⟩, e⟩
      rw [e]
      obtain ⟨j, -, j2, -⟩ := (zmem g _).mp (t2 g hg)
      exact j2
    · rintro ⟨i, hi, e⟩
      obtain ⟨i1, i2⟩ := List.mem_filter.mp hi
      have i1 := List.mem_range.mp i1
      have iS := (hT.2.1 i i1).1
      rw [← e]
      refine ⟨iS, fun g hg => ?_, fun g h1 h2 => by omega⟩
      obtain ⟨r, r1, r2⟩ := zh_r_ex h i1 hg
      exact (zmem g _).mpr ⟨r, r1, (hQ i i1).mp i2 g hg, r2⟩
  have l1 := List.Nodup.length_le_of_subset nd1 (fun t ht => (same t).mp ht)
  have l2 := List.Nodup.length_le_of_subset nd2 (fun t ht => (same t).mpr ht)
  rw [zh_L_len, List.length_map, ← zy_cnt_len] at l1
  rw [zh_L_len, List.length_map, ← zy_cnt_len] at l2
  have e : zg_pr (fun g => (((List.range (ns g)).filter (fun j => q g (ss g j))).map (ss g)).length) G = zg_pr (fun g => zy_cnt (fun j => q g (ss g j)) (ns g)) G := zg_pr_cong (fun g _ => by
    try dsimp only
    rw [List.length_map, ← zy_cnt_len])
  rw [e] at l1 l2
  omega
theorem zy_cnt_true : ∀ n, zy_cnt (fun _ => true) n = n
  | 0 => rfl
  | n + 1 => by rw [zy_cnt, zy_cnt_true n]; rfl
theorem zh_n (h : zh_TT f P b G gr n s c ns ss cs) : n = zg_pr ns G := by
  have := zh_count h (Q := fun _ => true) (q := fun _ _ => true) (fun i _ => ⟨fun _ _ _ => rfl, fun _ => rfl⟩)
  rw [zy_cnt_true] at this
  rw [this]
  exact zg_pr_cong (fun g _ => zy_cnt_true _)
end HD
