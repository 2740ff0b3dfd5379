/-! ===== search: the calls of a group, by rising codes ===== -/
section GR
variable {f π fr : Nat → Nat} {P N G g b : Nat} {t u : Nat}
def zs_in (fr : Nat → Nat) (g i : Nat) : Bool := decide (fr g ≤ i) && decide (i < fr (g + 1))
theorem zs_in_iff {i : Nat} : zs_in fr g i = true ↔ fr g ≤ i ∧ i < fr (g + 1) := by unfold zs_in; rw [Bool.and_eq_true, decide_eq_true_eq, decide_eq_true_eq]
/-- the letters by places of the group -/
def zs_dl (π fr : Nat → Nat) (g t i : Nat) : Nat := if zs_in fr g i then zg_d t (π i) else 0
/-- those at l who are called as i is -/
def zs_cm (f π fr : Nat → Nat) (g t l i : Nat) : Nat → Bool := fun j => zs_in fr g j && (decide (zg_d t (π j) = l) && decide (zg_n f t (π j) = zg_n f t (π i)))
/-- i is the first place of a name of l letters that may be called -/
def zs_cl (f π : Nat → Nat) (P : Nat) (fr : Nat → Nat) (g b t l i : Nat) : Bool :=
  zs_in fr g i && (decide (zg_d t (π i) = l) && ((List.range i).all (fun j => !zs_cm f π fr g t l i j) && decide (zy_cnt (zg_m f P t (π i)) P ≤ b)))
def zs_ch (f π : Nat → Nat) (P : Nat) (fr : Nat → Nat) (g b t x : Nat) : Nat := if zs_cl f π P fr g b t (x / 10 + 1) (x % 10) then zh_to f P t (π (x % 10)) else t
def zs_nx (f π : Nat → Nat) (P : Nat) (fr : Nat → Nat) (g b t : Nat) : List Nat := (List.range 80).map (zs_ch f π P fr g b t)
theorem zs_nx_at {x : Nat} (hx : x < 80) : (zs_nx f π P fr g b t)[x]? = some (zs_ch f π P fr g b t x) := by
  unfold zs_nx
  rw [List.getElem?_map, List.getElem?_range hx]; rfl
theorem zs_nx_len : (zs_nx f π P fr g b t).length = 80 := by unfold zs_nx; rw [List.length_map, List.length_range]
theorem zs_inN (hG : zs_Gr f π N G fr) (hg : g < G) {i : Nat} (h : zs_in fr g i = true) : i < N := by
  have := zs_Gr_mono hG (g := g + 1) (k := G) (by omega) (Nat.le_refl _)
  rw [hG.2.2.1] at this
  have := (zs_in_iff.mp h).2
  omega
theorem zs_in_g (hO : zs_Om f 10 N π) (hG : zs_Gr f π N G fr) (hg : g < G) {i : Nat} (h : zs_in fr g i = true) : zs_g f π N fr G (π i) = g := by
  rw [zs_g_at hO (zs_inN hG hg h)]
  exact zs_gi_eq hG hg (zs_in_iff.mp h).1 (zs_in_iff.mp h).2
theorem zs_g_in (hF : zs_F f P) (hO : zs_Om f 10 N π) (hG : zs_Gr f π N G fr) (hg : g < G) {p : Nat} (hp : p < P) (h : zs_g f π N fr G p = g) : ∃ i, i < N ∧ zs_in fr g i = true ∧ π i = p := by
  have hP := hF.1
  have G6 := hG.1
  have h0 : f p ≠ 0 := fun z => by unfold zs_g at h; rw [if_pos z] at h; omega
  obtain ⟨a, b⟩ := zs_pl_ok hO (show p < 10 by omega) h0
  refine ⟨zs_pl π N p, a, ?_, b⟩
  unfold zs_g at h
  rw [if_neg h0] at h
  have := zs_gi_ok hG a
  rw [h] at this
  exact zs_in_iff.mpr this.2
theorem zs_cl_iff {l i : Nat} : zs_cl f π P fr g b t l i = true ↔ zs_in fr g i = true ∧ zg_d t (π i) = l ∧ (∀ j, j < i → zs_cm f π fr g t l i j = false) ∧ zy_cnt (zg_m f P t (π i)) P ≤ b := by
  unfold zs_cl
  rw [Bool.and_eq_true, Bool.and_eq_true, Bool.and_eq_true, decide_eq_true_eq, decide_eq_true_eq, List.all_eq_true]
  constructor
  · rintro ⟨h1, h2, h3, h4⟩
    exact ⟨h1, h2, fun j hj => by have := h3 j (List.mem_range.mpr hj); rw [Bool.not_eq_true'] at this; exact this, h4⟩
  · rintro ⟨h1, h2, h3, h4⟩
    exact ⟨h1, h2, fun j hj => by rw [h3 j (List.mem_range.mp hj)]; rfl, h4⟩
theorem zs_cl_E (hF : zs_F f P) (hO : zs_Om f 10 N π) (hG : zs_Gr f π N G fr) (hg : g < G) {l i : Nat} (hl : 1 ≤ l) (h : zs_cl f π P fr g b t l i = true) : zh_E f P b (zh_A (zs_g f π N fr G) g) t (π i) := by
  obtain ⟨h1, h2, -, h4⟩ := zs_cl_iff.mp h
  exact ⟨zs_πP hF hO (zs_inN hG hg h1), zh_A_iff.mpr (zs_in_g hO hG hg h1), by omega, h4⟩
/-- the place by which somebody is called -/
theorem zs_cl_of (hF : zs_F f P) (hO : zs_Om f 10 N π) (hG : zs_Gr f π N G fr) (hg : g < G) {p : Nat} (hE : zh_E f P b (zh_A (zs_g f π N fr G) g) t p) : ∃ i, i < N ∧ zs_cl f π P fr g b t (zg_d t p) i = true ∧ zg_n f t (π i) = zg_n f t p := by
  obtain ⟨e1, e2, e3, e4⟩ := hE
  obtain ⟨k, k1, k2, k3⟩ := zs_g_in hF hO hG hg e1 (zh_A_iff.mp e2)
  have mk : zs_cm f π fr g t (zg_d t p) k k = true := by
    unfold zs_cm
    rw [k2, k3, decide_eq_true rfl, decide_eq_true rfl]; rfl
  obtain ⟨i, i1, i2, i3⟩ := zh_le mk
  unfold zs_cm at i2
  rw [Bool.and_eq_true, Bool.and_eq_true, decide_eq_true_eq, decide_eq_true_eq, k3] at i2
  refine ⟨i, by omega, zs_cl_iff.mpr ⟨i2.1, i2.2.1, fun j hj => ?_, ?_⟩, i2.2.2⟩
  · have := i3 j hj
    unfold zs_cm at this ⊢
    rw [k3] at this
    rw [i2.2.2]; exact this
  · rw [zg_m_eq i2.2.2]; exact e4
theorem zs_zh_nx (hF : zs_F f P) (hO : zs_Om f 10 N π) (hG : zs_Gr f π N G fr) (hg : g < G) : zh_nx f P b (zh_A (zs_g f π N fr G) g) (zs_nx f π P fr g b) := by
  intro t hS
  have hN := hO.1
  refine ⟨fun u hu => ?_, fun p hE => ?_⟩
  · unfold zs_nx at hu
    obtain ⟨x, hx, e⟩ := List.mem_map.mp hu
    unfold zs_ch at e
    cases hc : zs_cl f π P fr g b t (x / 10 + 1) (x % 10) with
    | true => rw [hc, if_pos rfl] at e; exact Or.inr ⟨_, zs_cl_E hF hO hG hg (by omega) hc, e.symm⟩
    | false => rw [hc, if_neg (by decide)] at e; exact Or.inl e.symm
  · obtain ⟨i, i1, i2, i3⟩ := zs_cl_of hF hO hG hg hE
    have d8 : zg_d t p ≤ 8 := Nat.le_trans (hS.2 p hE.1) (zs_F8 hF (by have := hF.1; have := hE.1; omega))
    have d1 := hE.2.2.1
    have at_ := zs_nx_at (f := f) (π := π) (P := P) (fr := fr) (g := g) (b := b) (t := t) (x := (zg_d t p - 1) * 10 + i) (by omega)
    unfold zs_ch at at_
    rw [show ((zg_d t p - 1) * 10 + i) / 10 + 1 = zg_d t p by omega, show ((zg_d t p - 1) * 10 + i) % 10 = i by omega, i2, if_pos rfl, zh_to_eq i3] at at_
    exact List.mem_of_getElem? at_
/-- where a call stands in the list -/
theorem zs_pos (hF : zs_F f P) (hO : zs_Om f 10 N π) (hG : zs_Gr f π N G fr) (hg : g < G) (hS : zg_S f P t) {x p : Nat} (hE : zh_E f P b (zh_A (zs_g f π N fr G) g) t p) (e : (zs_nx f π P fr g b t)[x]? = some (zh_to f P t p)) :
    x / 10 + 1 = zg_d t p ∧ zs_cl f π P fr g b t (zg_d t p) (x % 10) = true ∧ zg_n f t (π (x % 10)) = zg_n f t p := by
  have hx : x < 80 := by
    by_cases z : x < 80
    · exact z
    · rw [List.getElem?_eq_none (by rw [zs_nx_len]; omega)] at e; cases e
  rw [zs_nx_at hx] at e
  have e := Option.some.inj e
  unfold zs_ch at e
  cases hc : zs_cl f π P fr g b t (x / 10 + 1) (x % 10) with
  | false =>
    rw [hc, if_neg (by decide)] at e
    have ed := congrArg (fun s => zg_d s p) e
    have ed : zg_d t p = zg_d (zh_to f P t p) p := ed
    unfold zh_to at ed
    rw [zg_mv_d hE.1, zg_bt_1 (zg_m_self hE.1)] at ed
    have := hE.2.2.1
    omega
  | true =>
    rw [hc, if_pos rfl] at e
    have en := zh_to_inj hS hE e.symm
    obtain ⟨c1, c2, -⟩ := zs_cl_iff.mp hc
    have hq := zs_πP hF hO (zs_inN hG hg c1)
    have ed := zg_n_d (hS.2 _ hE.1) (hS.2 _ hq) en.symm
    rw [c2] at ed
    exact ⟨ed, by rw [← ed]; exact hc, en.symm⟩
theorem zs_zh_ord (hF : zs_F f P) (hO : zs_Om f 10 N π) (hG : zs_Gr f π N G fr) (hg : g < G) : zh_ord f P b (zh_A (zs_g f π N fr G) g) (zs_nx f π P fr g b) := by
  intro t hS x z p q hp hq hx hz
  obtain ⟨x1, x2, x3⟩ := zs_pos hF hO hG hg hS hp hx
  obtain ⟨z1, z2, z3⟩ := zs_pos hF hO hG hg hS hq hz
  obtain ⟨cx1, cx2, cx3, -⟩ := zs_cl_iff.mp x2
  obtain ⟨cz1, cz2, cz3, -⟩ := zs_cl_iff.mp z2
  have nx := zs_inN hG hg cx1
  have nz := zs_inN hG hg cz1
  constructor
  · intro lt
    have ll := zy_len_mono (show zg_n f t p ≤ zg_n f t q by omega)
    rw [zg_n_len (hS.2 p hp.1), zg_n_len (hS.2 q hq.1)] at ll
    by_cases le : zg_d t p < zg_d t q
    · omega
    · have e : zg_d t p = zg_d t q := by omega
      by_cases lt2 : x % 10 < z % 10
      · omega
      · exfalso
        have hpx := zs_πP hF hO nx
        have hpz := zs_πP hF hO nz
        have h1 := hS.2 _ hpx
        have h2 := hS.2 _ hpz
        have := zs_rise hF hO (i := z % 10) (k := x % 10) (l := zg_d t p) (by omega) nx (by omega) (by omega)
        have e1 : zg_n f t (π (z % 10)) = zy_pf (f (π (z % 10))) (zg_d t p) := by unfold zg_n; rw [cz2, e]
        have e2 : zg_n f t (π (x % 10)) = zy_pf (f (π (x % 10))) (zg_d t p) := by unfold zg_n; rw [cx2]
        rw [← e1, ← e2, x3, z3] at this
        omega
  · intro e
    have ed := zg_n_d (hS.2 p hp.1) (hS.2 q hq.1) e.symm
    have no : ∀ i k l, zs_in fr g i = true → zg_d t (π i) = l → zg_n f t (π i) = zg_n f t (π k) → (∀ j, j < k → zs_cm f π fr g t l k j = false) → ¬ i < k := fun i k l a1 a2 a3 a4 a5 => by
      have := a4 i a5
      unfold zs_cm at this
      rw [a1, decide_eq_true a2, decide_eq_true a3] at this
      cases this
    have n1 := no (x % 10) (z % 10) (zg_d t q) cx1 (by omega) (by rw [x3, z3, e]) cz3
    have n2 := no (z % 10) (x % 10) (zg_d t p) cz1 (by omega) (by rw [x3, z3, e]) cx3
    omega
/-- raw states of a group are told apart -/
theorem zs_raw_inj (hF : zs_F f P) (hO : zs_Om f 10 N π) (hG : zs_Gr f π N G fr) (hg : g < G) (hT : zh_V f P b (zh_A (zs_g f π N fr G) g) t) (hU : zh_V f P b (zh_A (zs_g f π N fr G) g) u) (e : zs_r (g + 1) (zs_dl π fr g t) = zs_r (g + 1) (zs_dl π fr g u)) : t = u := by
  have hP := hF.1
  have d32 : ∀ s i, zs_dl π fr g s i < 32 := fun s i => by
    unfold zs_dl
    have := zg_d_lt (s := s) (p := π i)
    split <;> omega
  rw [zs_r_eq, zs_r_eq] at e
  have e := zs_inj (fun i _ => d32 t i) (fun i _ => d32 u i) (show zs_c 10 (zs_dl π fr g t) = zs_c 10 (zs_dl π fr g u) by omega)
  refine zg_ext hT.1.1 hU.1.1 (fun p hp => ?_)
  by_cases z : zs_g f π N fr G p = g
  · obtain ⟨i, i1, i2, i3⟩ := zs_g_in hF hO hG hg hp z
    have := e i (by have := hO.1; omega)
    unfold zs_dl at this
    rw [i2, if_pos rfl, if_pos rfl, i3] at this
    exact this
  · rw [hT.2.2 p hp (Or.inl (zh_A_not.mpr z)), hU.2.2 p hp (Or.inl (zh_A_not.mpr z))]
theorem zs_mark {k k' : Nat} {δ δ' : Nat → Nat} (hδ : ∀ i, i < 10 → δ i < 32) (hδ' : ∀ i, i < 10 → δ' i < 32) (e : zs_r k δ = zs_r k' δ') : k = k' := by
  have h1 := zs_c10 hδ
  have h2 := zs_c10 hδ'
  rw [zs_r_eq, zs_r_eq] at e
  omega
/-- a table grows over children that are the state itself -/
theorem zq_B_self {st : Nat} {nx : Nat → List Nat} {s p c : Nat → Nat} {n a j : Nat} (h : zq_B st nx s p c n a j) (ha : a < n) : ∀ k, (∀ x, j ≤ x → x < j + k → (nx (s a))[x]? = some (s a)) → zq_B st nx s p c n a (j + k)
  | 0, _ => h
  | k + 1, hx => by
    have := zq_B_self h ha k (fun x x1 x2 => hx x x1 (by omega))
    exact zq_B_old this ha (hx (j + k) (by omega) (by omega)) ha rfl
/-- who answers, by places -/
theorem zs_ans (hF : zs_F f P) (hO : zs_Om f 10 N π) (hG : zs_Gr f π N G fr) (hg : g < G) (hS : zg_S f P t) {l i : Nat} (hl : 1 ≤ l) (hi : zs_in fr g i = true) (hd : zg_d t (π i) = l) : ∀ j, j < N → zs_cm f π fr g t l i j = zg_m f P t (π i) (π j) := by
  intro j hj
  have hp := zs_πP hF hO (zs_inN hG hg hi)
  have hq := zs_πP hF hO hj
  unfold zs_cm zg_m
  rw [decide_eq_true hq, Bool.true_and]
  by_cases e : zg_n f t (π j) = zg_n f t (π i)
  · have ed := zg_n_d (hS.2 _ hp) (hS.2 _ hq) e
    rw [decide_eq_true e, decide_eq_true (show zg_d t (π j) = l by omega), Bool.and_true, Bool.and_true]
    have := zh_mA (zh_sat_A (g := g) (zs_zh_G hF hO hG)) hS hp (by omega) (zg_m_iff.mpr ⟨hq, e⟩)
    rw [zh_A_iff.mpr (zs_in_g hO hG hg hi)] at this
    have := zh_A_iff.mp this
    rw [zs_g_at hO hj] at this
    have ok := zs_gi_ok hG hj
    rw [this] at ok
    exact zs_in_iff.mpr ok.2
  · rw [decide_eq_false e, Bool.and_false, Bool.and_false]
theorem zs_cm_cnt (hF : zs_F f P) (hO : zs_Om f 10 N π) (hG : zs_Gr f π N G fr) (hg : g < G) (hS : zg_S f P t) {l i : Nat} (hl : 1 ≤ l) (hi : zs_in fr g i = true) (hd : zg_d t (π i) = l) : zy_cnt (zs_cm f π fr g t l i) 10 = zy_cnt (zg_m f P t (π i)) P := by
  have hN := hO.1
  have hp := zs_πP hF hO (zs_inN hG hg hi)
  rw [zy_cnt_ext (m := N) hN (fun j h1 h2 => by
    unfold zs_cm
    cases e : zs_in fr g j with
    | false => rfl
    | true => have := zs_inN hG hg e; omega)]
  rw [zy_cnt_cong (zs_ans hF hO hG hg hS hl hi hd)]
  exact zs_cnt_pl hF hO (fun p hp2 hm => by
    have ed := zg_n_d (hS.2 _ hp) (hS.2 _ hp2) (zg_m_iff.mp hm).2
    exact zh_f0 hS hp2 (by omega))
/-- the state behind, by places -/
theorem zs_dl_to (hF : zs_F f P) (hO : zs_Om f 10 N π) (hG : zs_Gr f π N G fr) (hg : g < G) (hS : zg_S f P t) {l i : Nat} (hl : 1 ≤ l) (hi : zs_in fr g i = true) (hd : zg_d t (π i) = l) : ∀ j, j < 10 → zs_dl π fr g (zh_to f P t (π i)) j = zs_dl π fr g t j - zg_bt (zs_cm f π fr g t l i) j := by
  intro j hj
  unfold zs_dl
  cases e : zs_in fr g j with
  | true =>
    rw [if_pos rfl, if_pos rfl]
    have hjN := zs_inN hG hg e
    unfold zh_to
    rw [zg_mv_d (zs_πP hF hO hjN)]
    congr 1
    rw [zg_bt_b, zg_bt_b, zs_ans hF hO hG hg hS hl hi hd j hjN]
  | false => rw [if_neg (by decide), if_neg (by decide), Nat.zero_sub]
end GR
