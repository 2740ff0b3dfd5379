/-! ===== search: groups never meet ===== -/
theorem zg_sm_cong {g h : Nat → Nat} : ∀ {n : Nat}, (∀ i, i < n → g i = h i) → zg_sm g n = zg_sm h n
  | 0, _ => rfl
  | n + 1, e => by rw [zg_sm, zg_sm, zg_sm_cong (n := n) (fun i hi => e i (by omega)), e n (by omega)]
theorem zg_sm_add {g h : Nat → Nat} : ∀ {n : Nat}, zg_sm (fun i => g i + h i) n = zg_sm g n + zg_sm h n
  | 0 => rfl
  | n + 1 => by rw [zg_sm, zg_sm, zg_sm, zg_sm_add (n := n)]; omega
theorem zg_sm_0 : ∀ {n : Nat}, zg_sm (fun _ => 0) n = 0
  | 0 => rfl
  | n + 1 => by rw [zg_sm, zg_sm_0]
theorem zg_sm_one {a x : Nat} : ∀ {n : Nat}, zg_sm (fun i => if x = i then a else 0) n = if x < n then a else 0
  | 0 => by rw [if_neg (by omega)]; rfl
  | n + 1 => by
    rw [zg_sm, zg_sm_one (n := n)]
    by_cases h1 : x < n
    · rw [if_pos h1, if_neg (by omega), if_pos (by omega)]; omega
    · by_cases h2 : x = n
      · rw [if_neg h1, if_pos h2, if_pos (by omega)]; omega
      · rw [if_neg h1, if_neg h2, if_neg (by omega)]
theorem zg_sm_up {g : Nat → Nat} {x n : Nat} (hx : x < n) : zg_sm (fun i => if i = x then g i + 1 else g i) n = zg_sm g n + 1 := by
  have e : zg_sm (fun i => if i = x then g i + 1 else g i) n = zg_sm (fun i => g i + if x = i then 1 else 0) n := zg_sm_cong (fun i _ => by
    try dsimp only
    by_cases h : i = x
    · rw [if_pos h, if_pos h.symm]
    · rw [if_neg h, if_neg (fun q => h q.symm)]; omega)
  rw [e, zg_sm_add, zg_sm_one, if_pos hx]
theorem zg_sm_le {g h : Nat → Nat} : ∀ {n : Nat}, (∀ i, i < n → g i ≤ h i) → zg_sm g n ≤ zg_sm h n
  | 0, _ => Nat.le_refl _
  | n + 1, e => by
    have := zg_sm_le (n := n) (fun i hi => e i (by omega))
    have := e n (by omega)
    rw [zg_sm, zg_sm]; omega
theorem zg_sm_eq {g h : Nat → Nat} : ∀ {n : Nat}, (∀ i, i < n → g i ≤ h i) → zg_sm h n ≤ zg_sm g n → ∀ i, i < n → g i = h i
  | 0, _, _, i, hi => by omega
  | n + 1, e, s, i, hi => by
    have h1 := zg_sm_le (n := n) (fun i hi => e i (by omega))
    have h2 := e n (by omega)
    rw [zg_sm, zg_sm] at s
    by_cases z : i = n
    · rw [z]; omega
    · exact zg_sm_eq (n := n) (fun i hi => e i (by omega)) (by omega) i (by omega)
def zh_A (gr : Nat → Nat) (g : Nat) : Nat → Bool := fun p => decide (gr p = g)
/-- groups by first letters; who has no name is in none -/
def zh_G (f : Nat → Nat) (P G : Nat) (gr : Nat → Nat) : Prop :=
  (∀ p, p < P → f p ≠ 0 → gr p < G) ∧ (∀ p, p < P → f p = 0 → G ≤ gr p) ∧
  ∀ p q, p < P → q < P → f p ≠ 0 → f q ≠ 0 → (zy_pf (f p) 1 = zy_pf (f q) 1 ↔ gr p = gr q)
/-- group g of a state, the others as at first -/
def zh_pj (f : Nat → Nat) (P : Nat) (gr : Nat → Nat) (g t : Nat) : Nat := zg_c P (fun p => if gr p = g then zg_d t p else zy_len (f p))
section HG
variable {f gr : Nat → Nat} {P b G g h : Nat} {A B : Nat → Bool} {t u x p q : Nat}
theorem zh_A_iff : zh_A gr g p = true ↔ gr p = g := by unfold zh_A; exact decide_eq_true_iff
theorem zh_A_not : zh_A gr g p = false ↔ gr p ≠ g := by unfold zh_A; exact decide_eq_false_iff_not
theorem zh_sat_all : zh_sat f P (fun _ => true) := fun _ _ _ _ _ _ => rfl
theorem zh_sat_A (hG : zh_G f P G gr) : zh_sat f P (zh_A gr g) := by
  intro p q hp hq h0 e
  have l1 := congrArg zy_len e
  rw [zy_len_pf, zy_len_pf] at l1
  have h1 : zy_len (f p) ≠ 0 := fun z => h0 (zy_len_pos.mp z)
  have hq0 : f q ≠ 0 := fun z => by rw [z, zy_len_0] at l1; omega
  have := (hG.2.2 p q hp hq h0 hq0).mp e
  unfold zh_A
  rw [this]
theorem zh_pj_d (hf : ∀ p, p < P → zy_len (f p) ≤ 8) (hp : p < P) : zg_d (zh_pj f P gr g t) p = if gr p = g then zg_d t p else zy_len (f p) := by
  unfold zh_pj
  exact zg_d_c (fun q hq => by
    have := hf q hq
    have := zg_d_lt (s := t) (p := q)
    try dsimp only
    split <;> omega) p hp
theorem zh_pj_S (hf : ∀ p, p < P → zy_len (f p) ≤ 8) (hS : zg_S f P t) : zg_S f P (zh_pj f P gr g t) := by
  refine ⟨?_, fun p hp => ?_⟩
  · unfold zh_pj
    exact zg_c_lt (fun q hq => by
      have := hf q hq
      have := zg_d_lt (s := t) (p := q)
      try dsimp only
      split <;> omega)
  · rw [zh_pj_d hf hp]
    have := hS.2 p hp
    split <;> omega
theorem zh_pj_st (hf : ∀ p, p < P → zy_len (f p) ≤ 8) : zh_pj f P gr g (zg_st f P) = zg_st f P := by
  refine zg_ext (zh_pj_S hf (zg_st_S hf)).1 (zg_st_S hf).1 (fun p hp => ?_)
  rw [zh_pj_d hf hp, zg_st_d hf hp]
  split <;> rfl
/-- who answers is seen in the group alone -/
theorem zh_m_ag (hA : zh_sat f P A) (hS : zg_S f P t) (hU : zg_S f P u) (ha : ∀ q, q < P → A q = true → zg_d t q = zg_d u q) (hp : p < P) (hAp : A p = true) (hd : 0 < zg_d t p) : zg_m f P t p = zg_m f P u p := by
  funext q
  by_cases hq : q < P
  · have dp := ha p hp hAp
    cases hAq : A q with
    | true =>
      unfold zg_m zg_n
      rw [ha q hq hAq, dp]
    | false =>
      have e1 : zg_m f P t p q = false := by
        cases z : zg_m f P t p q with
        | false => rfl
        | true => have := zh_mA hA hS hp hd z; rw [hAq, hAp] at this; cases this
      have e2 : zg_m f P u p q = false := by
        cases z : zg_m f P u p q with
        | false => rfl
        | true => have := zh_mA hA hU hp (by omega) z; rw [hAq, hAp] at this; cases this
      rw [e1, e2]
  · unfold zg_m
    rw [decide_eq_false hq, Bool.false_and, Bool.false_and]
theorem zh_E_ag (hA : zh_sat f P A) (hS : zg_S f P t) (hU : zg_S f P u) (ha : ∀ q, q < P → A q = true → zg_d t q = zg_d u q) (hAp : A p = true) (hBp : B p = true) (hE : zh_E f P b B t p) : zh_E f P b A u p := by
  obtain ⟨e1, -, e3, e4⟩ := hE
  have em := zh_m_ag hA hS hU ha e1 hAp e3
  exact ⟨e1, hAp, by have := ha p e1 hAp; omega, by rw [← em]; exact e4⟩
theorem zh_E_ag' (hA : zh_sat f P A) (hS : zg_S f P t) (hU : zg_S f P u) (ha : ∀ q, q < P → A q = true → zg_d t q = zg_d u q) (hBp : B p = true) (hE : zh_E f P b A t p) : zh_E f P b B u p := by
  obtain ⟨e1, e2, e3, e4⟩ := hE
  have em := zh_m_ag hA hS hU ha e1 e2 e3
  exact ⟨e1, hBp, by have := ha p e1 e2; omega, by rw [← em]; exact e4⟩
theorem zh_to_off (hA : zh_sat f P A) (hS : zg_S f P t) (hp : p < P) (hAp : A p = true) (hd : 0 < zg_d t p) (hq : q < P) (hAq : A q = false) : zg_d (zh_to f P t p) q = zg_d t q := by
  unfold zh_to
  rw [zg_mv_d hq, zg_bt_0]
  · rfl
  · cases z : zg_m f P t p q with
    | false => rfl
    | true => have := zh_mA hA hS hp hd z; rw [hAq, hAp] at this; cases this
theorem zh_to_on (hA : zh_sat f P A) (hS : zg_S f P t) (hU : zg_S f P u) (ha : ∀ q, q < P → A q = true → zg_d t q = zg_d u q) (hp : p < P) (hAp : A p = true) (hd : 0 < zg_d t p) (hq : q < P) (hAq : A q = true) : zg_d (zh_to f P t p) q = zg_d (zh_to f P u p) q := by
  unfold zh_to
  rw [zg_mv_d hq, zg_mv_d hq, zh_m_ag hA hS hU ha hp hAp hd, ha q hq hAq]
theorem zh_pj_ag (hf : ∀ p, p < P → zy_len (f p) ≤ 8) : ∀ q, q < P → zh_A gr g q = true → zg_d t q = zg_d (zh_pj f P gr g t) q := fun q hq h => by
  rw [zh_pj_d hf hq, if_pos (zh_A_iff.mp h)]
/-- a call of the group, in the group -/
theorem zh_pj_to (hf : ∀ p, p < P → zy_len (f p) ≤ 8) (hG : zh_G f P G gr) (hS : zg_S f P t) (hp : p < P) (hg : gr p = g) (hd : 0 < zg_d t p) : zh_pj f P gr g (zh_to f P t p) = zh_to f P (zh_pj f P gr g t) p := by
  have hA := zh_sat_A (g := g) hG
  have hU := zh_pj_S (gr := gr) (g := g) hf hS
  have hAp : zh_A gr g p = true := zh_A_iff.mpr hg
  have du : 0 < zg_d (zh_pj f P gr g t) p := by rw [zh_pj_d hf hp, if_pos hg]; exact hd
  refine zg_ext (zh_pj_S hf (zh_to_S hS)).1 (zh_to_S hU).1 (fun q hq => ?_)
  rw [zh_pj_d hf hq]
  by_cases e : gr q = g
  · rw [if_pos e]
    exact zh_to_on hA hS hU (zh_pj_ag hf) hp hAp hd hq (zh_A_iff.mpr e)
  · rw [if_neg e, zh_to_off hA hU hp hAp du hq (zh_A_not.mpr e), zh_pj_d hf hq, if_neg e]
/-- a call of another group -/
theorem zh_pj_off (hf : ∀ p, p < P → zy_len (f p) ≤ 8) (hG : zh_G f P G gr) (hS : zg_S f P t) (hp : p < P) (hg : gr p ≠ g) (hd : 0 < zg_d t p) : zh_pj f P gr g (zh_to f P t p) = zh_pj f P gr g t := by
  have hA := zh_sat_A (g := gr p) hG
  refine zg_ext (zh_pj_S hf (zh_to_S hS)).1 (zh_pj_S hf hS).1 (fun q hq => ?_)
  rw [zh_pj_d hf hq, zh_pj_d hf hq]
  by_cases e : gr q = g
  · rw [if_pos e, if_pos e]
    exact zh_to_off hA hS hp (zh_A_iff.mpr rfl) hd hq (zh_A_not.mpr (fun z => hg (z.symm.trans e)))
  · rw [if_neg e, if_neg e]
/-- a way of all, group by group -/
theorem zh_W_pj (hf : ∀ p, p < P → zy_len (f p) ≤ 8) (hG : zh_G f P G gr) (hX : zg_S f P x) : ∀ {k t : Nat}, zh_W f P b (fun _ => true) x k t → ∃ ks : Nat → Nat, zg_sm ks G = k ∧ ∀ g, g < G → zh_W f P b (zh_A gr g) (zh_pj f P gr g x) (ks g) (zh_pj f P gr g t)
  | 0, t, h => by
    have h : t = x := h
    rw [h]
    exact ⟨fun _ => 0, zg_sm_0, fun g _ => rfl⟩
  | k + 1, t, ⟨u, p, h1, h2, e⟩ => by
    obtain ⟨ks, k1, k2⟩ := zh_W_pj hf hG hX h1
    have uS := zh_W_S hX h1
    obtain ⟨e1, -, e3, -⟩ := id h2
    have hg := hG.1 p e1 (zh_f0 uS e1 e3)
    refine ⟨fun i => if i = gr p then ks i + 1 else ks i, by rw [zg_sm_up hg, k1], fun g hgG => ?_⟩
    by_cases eg : g = gr p
    · dsimp only
      rw [if_pos eg, e, zh_pj_to hf hG uS e1 eg.symm e3]
      exact ⟨_, p, k2 g hgG, zh_E_ag (zh_sat_A hG) uS (zh_pj_S hf uS) (zh_pj_ag hf) (zh_A_iff.mpr eg.symm) rfl h2, rfl⟩
    · dsimp only
      rw [if_neg eg, e, zh_pj_off hf hG uS e1 (fun z => eg z.symm) e3]
      exact k2 g hgG
theorem zh_mix_lt {F : Nat → Nat} (h : ∀ p, p < P → F p ≤ zy_len (f p)) (hf : ∀ p, p < P → zy_len (f p) ≤ 8) : zg_S f P (zg_c P F) ∧ ∀ p, p < P → zg_d (zg_c P F) p = F p := by
  have hl : ∀ p, p < P → F p < 16 := fun p hp => by have := h p hp; have := hf p hp; omega
  refine ⟨⟨zg_c_lt hl, fun p hp => ?_⟩, fun p hp => zg_d_c hl p hp⟩
  rw [zg_d_c hl p hp]; exact h p hp
/-- ways of the groups, one after the other -/
theorem zh_W_join (hf : ∀ p, p < P → zy_len (f p) ≤ 8) (hG : zh_G f P G gr) (hX : zg_S f P x) (hT : zg_S f P t) {ks : Nat → Nat} (hk : ∀ g, g < G → zh_W f P b (zh_A gr g) (zh_pj f P gr g x) (ks g) (zh_pj f P gr g t)) : zh_W f P b (fun _ => true) x (zg_sm ks G) t := by
  have yo : ∀ m, zg_S f P (zg_c P (fun p => if gr p < m then zg_d t p else zg_d x p)) ∧ ∀ p, p < P → zg_d (zg_c P (fun p => if gr p < m then zg_d t p else zg_d x p)) p = if gr p < m then zg_d t p else zg_d x p := fun m =>
    zh_mix_lt (fun p hp => by have := hX.2 p hp; have := hT.2 p hp; split <;> omega) hf
  have key : ∀ m, m ≤ G → zh_W f P b (fun _ => true) x (zg_sm ks m) (zg_c P (fun p => if gr p < m then zg_d t p else zg_d x p)) := by
    intro m
    induction m with
    | zero =>
      intro _
      show zg_c P (fun p => if gr p < 0 then zg_d t p else zg_d x p) = x
      refine zg_ext (yo 0).1.1 hX.1 (fun p hp => ?_)
      rw [(yo 0).2 p hp, if_neg (by omega)]
    | succ m ih =>
      intro hm
      rw [zg_sm]
      refine zh_W_add (ih (by omega)) ?_
      have jo : ∀ u, zg_S f P u → zg_S f P (zg_c P (fun p => if gr p = m then zg_d u p else if gr p < m then zg_d t p else zg_d x p)) ∧ ∀ p, p < P → zg_d (zg_c P (fun p => if gr p = m then zg_d u p else if gr p < m then zg_d t p else zg_d x p)) p = if gr p = m then zg_d u p else if gr p < m then zg_d t p else zg_d x p := fun u hu =>
        zh_mix_lt (fun p hp => by
          have := hX.2 p hp
          have := hT.2 p hp
          have := hu.2 p hp
          split
          · omega
          · split <;> omega) hf
      have pS := zh_pj_S (gr := gr) (g := m) hf hX
      have inner : ∀ k u, zh_W f P b (zh_A gr m) (zh_pj f P gr m x) k u → zh_W f P b (fun _ => true) (zg_c P (fun p => if gr p < m then zg_d t p else zg_d x p)) k (zg_c P (fun p => if gr p = m then zg_d u p else if gr p < m then zg_d t p else zg_d x p)) := by
        intro k
        induction k with
        | zero =>
          intro u hu
          have hu : u = zh_pj f P gr m x := hu
          show zg_c P _ = _
          refine zg_ext (jo u (by rw [hu]; exact pS)).1.1 (yo m).1.1 (fun p hp => ?_)
          rw [(jo u (by rw [hu]; exact pS)).2 p hp, (yo m).2 p hp]
          by_cases e : gr p = m
          · rw [if_pos e, hu, zh_pj_d hf hp, if_pos e, if_neg (by omega)]
          · rw [if_neg e]
        | succ k ih2 =>
          intro u' ⟨u, p, h1, h2, e⟩
          have uS := zh_W_S pS h1
          obtain ⟨j1, j2⟩ := jo u uS
          have ag : ∀ q, q < P → zh_A gr m q = true → zg_d u q = zg_d (zg_c P (fun p => if gr p = m then zg_d u p else if gr p < m then zg_d t p else zg_d x p)) q := fun q hq hA => by
            rw [j2 q hq, if_pos (zh_A_iff.mp hA)]
          have hE := zh_E_ag' (B := fun _ => true) (zh_sat_A hG) uS j1 ag rfl h2
          refine ⟨_, p, ih2 u h1, hE, ?_⟩
          obtain ⟨e1, e2, e3, -⟩ := id h2
          have u'S : zg_S f P u' := by rw [e]; exact zh_to_S uS
          refine zg_ext (jo u' u'S).1.1 (zh_to_S j1).1 (fun q hq => ?_)
          rw [(jo u' u'S).2 q hq]
          by_cases eq : gr q = m
          · rw [if_pos eq, e]
            exact zh_to_on (zh_sat_A hG) uS j1 ag e1 e2 e3 hq (zh_A_iff.mpr eq)
          · rw [if_neg eq, zh_to_off (zh_sat_A hG) j1 e1 e2 hE.2.2.1 hq (zh_A_not.mpr eq), j2 q hq, if_neg eq]
      have fin := inner (ks m) _ (hk m (by omega))
      have e : zg_c P (fun p => if gr p = m then zg_d (zh_pj f P gr m t) p else if gr p < m then zg_d t p else zg_d x p) = zg_c P (fun p => if gr p < m + 1 then zg_d t p else zg_d x p) := by
        refine zg_c_cong (fun p hp => ?_)
        by_cases e : gr p = m
        · rw [if_pos e, zh_pj_d hf hp, if_pos e, if_pos (by omega)]
        · rw [if_neg e]
          by_cases e2 : gr p < m
          · rw [if_pos e2, if_pos (by omega)]
          · rw [if_neg e2, if_neg (by omega)]
      rw [e] at fin
      exact fin
  have fin := key G (Nat.le_refl _)
  have e : zg_c P (fun p => if gr p < G then zg_d t p else zg_d x p) = t := by
    refine zg_ext (yo G).1.1 hT.1 (fun p hp => ?_)
    rw [(yo G).2 p hp]
    by_cases e : gr p < G
    · rw [if_pos e]
    · rw [if_neg e]
      by_cases z : f p = 0
      · have h1 := hX.2 p hp
        have h2 := hT.2 p hp
        rw [z, zy_len_0] at h1 h2
        omega
      · exact absurd (hG.1 p hp z) e
  rw [e] at fin
  exact fin
/-- what is lost, group by group -/
theorem zh_ls_sum (hf : ∀ p, p < P → zy_len (f p) ≤ 8) (hG : zh_G f P G gr) (hS : zg_S f P t) : zg_ls f P t = zg_sm (fun g => zg_ls f P (zh_pj f P gr g t)) G := by
  have key : ∀ N, N ≤ P → zg_sm (fun p => zy_len (f p) - zg_d t p) N = zg_sm (fun g => zg_sm (fun p => zy_len (f p) - zg_d (zh_pj f P gr g t) p) N) G := by
    intro N
    induction N with
    | zero => exact fun _ => zg_sm_0.symm
    | succ N ih =>
      intro hN
      rw [zg_sm, ih (by omega)]
      have : zg_sm (fun g => zg_sm (fun p => zy_len (f p) - zg_d (zh_pj f P gr g t) p) (N + 1)) G = zg_sm (fun g => zg_sm (fun p => zy_len (f p) - zg_d (zh_pj f P gr g t) p) N + if gr N = g then zy_len (f N) - zg_d t N else 0) G := zg_sm_cong (fun g _ => by
        try dsimp only
        rw [zg_sm, zh_pj_d hf (by omega)]
        by_cases e : gr N = g
        · rw [if_pos e, if_pos e]
        · rw [if_neg e, if_neg e]; omega)
      rw [this, zg_sm_add, zg_sm_one]
      by_cases e : gr N < G
      · rw [if_pos e]
      · rw [if_neg e]
        by_cases z : f N = 0
        · rw [z, zy_len_0]; omega
        · exact absurd (hG.1 N (by omega) z) e
  exact key P (Nat.le_refl _)
/-- a state that comes in a group is as at first elsewhere -/
theorem zh_pj_self (hf : ∀ p, p < P → zy_len (f p) ≤ 8) (hV : zh_V f P b (zh_A gr g) t) : zh_pj f P gr g t = t := by
  refine zg_ext (zh_pj_S hf hV.1).1 hV.1.1 (fun p hp => ?_)
  rw [zh_pj_d hf hp]
  by_cases e : gr p = g
  · rw [if_pos e]
  · rw [if_neg e, hV.2.2 p hp (Or.inl (zh_A_not.mpr e))]
/-- one state out of many -/
def zh_jn (f : Nat → Nat) (P : Nat) (gr : Nat → Nat) (G : Nat) (τ : Nat → Nat) : Nat := zg_c P (fun p => if gr p < G then zg_d (τ (gr p)) p else zy_len (f p))
theorem zh_jn_ok (hf : ∀ p, p < P → zy_len (f p) ≤ 8) {τ : Nat → Nat} (hV : ∀ g, g < G → zh_V f P b (zh_A gr g) (τ g)) : zg_S f P (zh_jn f P gr G τ) ∧ ∀ g, g < G → zh_pj f P gr g (zh_jn f P gr G τ) = τ g := by
  obtain ⟨h1, h2⟩ := zh_mix_lt (f := f) (P := P) (F := fun p => if gr p < G then zg_d (τ (gr p)) p else zy_len (f p)) (fun p hp => by
    try dsimp only
    split
    · rename_i e; exact (hV _ e).1.2 p hp
    · omega) hf
  refine ⟨h1, fun g hg => ?_⟩
  refine zg_ext (zh_pj_S hf h1).1 (hV g hg).1.1 (fun p hp => ?_)
  rw [zh_pj_d hf hp]
  by_cases e : gr p = g
  · rw [if_pos e]
    unfold zh_jn
    rw [h2 p hp, if_pos (by omega), e]
  · rw [if_neg e, (hV g hg).2.2 p hp (Or.inl (zh_A_not.mpr e))]
theorem zh_jn_pj (hf : ∀ p, p < P → zy_len (f p) ≤ 8) (hG : zh_G f P G gr) (hS : zg_S f P t) (hU : zg_S f P u) (h : ∀ g, g < G → zh_pj f P gr g t = zh_pj f P gr g u) : t = u := by
  refine zg_ext hS.1 hU.1 (fun p hp => ?_)
  by_cases z : f p = 0
  · have h1 := hS.2 p hp
    have h2 := hU.2 p hp
    rw [z, zy_len_0] at h1 h2
    omega
  · have e := congrArg (fun s => zg_d s p) (h _ (hG.1 p hp z))
    try dsimp only at e
    rw [zh_pj_d hf hp, zh_pj_d hf hp, if_pos rfl, if_pos rfl] at e
    exact e
end HG
