/-! ===== search: calls as edges; which states come ===== -/
theorem zy_pf_pf {c n m : Nat} (h : m ≤ n) : zy_pf (zy_pf c n) m = zy_pf c m := by
  unfold zy_pf
  rw [zy_len_dk, Nat.div_div_eq_div_mul, ← Nat.pow_add]
  congr 2; omega
theorem zh_le {m : Nat → Bool} {p : Nat} (h : m p = true) : ∃ q, q ≤ p ∧ m q = true ∧ ∀ r, r < q → m r = false := by
  induction p using Nat.strongRecOn with
  | _ p ih =>
    by_cases e : ∃ r, r < p ∧ m r = true
    · obtain ⟨r, h1, h2⟩ := e
      obtain ⟨q, q1, q2, q3⟩ := ih r h1 h2
      exact ⟨q, by omega, q2, q3⟩
    · refine ⟨p, Nat.le_refl _, h, fun r hr => ?_⟩
      cases z : m r with
      | false => rfl
      | true => exact absurd ⟨r, hr, z⟩ e
theorem zh_max {m : Nat → Prop} {κ : Nat → Nat} : ∀ {n p : Nat}, p < n → m p → ∃ q, q < n ∧ m q ∧ ∀ r, r < n → m r → κ r ≤ κ q
  | 0, p, h, _ => by omega
  | n + 1, p, h, hm => by
    by_cases e : ∃ p, p < n ∧ m p
    · obtain ⟨p', p1, p2⟩ := e
      obtain ⟨q, q1, q2, q3⟩ := zh_max (κ := κ) p1 p2
      by_cases z : m n ∧ κ q < κ n
      · refine ⟨n, by omega, z.1, fun r hr hmr => ?_⟩
        by_cases er : r = n
        · rw [er]; exact Nat.le_refl _
        · have := q3 r (by omega) hmr; omega
      · refine ⟨q, by omega, q2, fun r hr hmr => ?_⟩
        by_cases er : r = n
        · rw [er] at hmr ⊢
          by_cases z2 : κ q < κ n
          · exact absurd ⟨hmr, z2⟩ z
          · omega
        · exact q3 r (by omega) hmr
    · have ep : p = n := by
        by_cases z : p = n
        · exact z
        · exact absurd ⟨p, by omega, hm⟩ e
      rw [ep] at hm
      refine ⟨n, by omega, hm, fun r hr hmr => ?_⟩
      by_cases er : r = n
      · rw [er]; exact Nat.le_refl _
      · exact absurd ⟨r, by omega, hmr⟩ e
theorem zy_cnt_mono {p q : Nat → Bool} : ∀ {n : Nat}, (∀ i, i < n → p i = true → q i = true) → zy_cnt p n ≤ zy_cnt q n
  | 0, _ => Nat.le_refl _
  | n + 1, h => by
    have ih := zy_cnt_mono (p := p) (q := q) (n := n) (fun i hi => h i (by omega))
    have h2 := h n (by omega)
    rw [zy_cnt, zy_cnt]
    cases e : p n with
    | false =>
      rw [show (if false = true then 1 else 0) = 0 from rfl]; omega
    | true => rw [h2 e, if_pos rfl]; omega
theorem zg_bt_le {m : Nat → Bool} {q : Nat} : zg_bt m q ≤ 1 := by unfold zg_bt; split <;> omega
theorem zg_bt_1 {m : Nat → Bool} {q : Nat} (h : m q = true) : zg_bt m q = 1 := by unfold zg_bt; rw [if_pos h]
theorem zg_bt_0 {m : Nat → Bool} {q : Nat} (h : m q = false) : zg_bt m q = 0 := by unfold zg_bt; rw [h]; rfl
section HE
variable {f : Nat → Nat} {P b : Nat} {A B : Nat → Bool} {t u x p q : Nat} {nx : Nat → List Nat}
theorem zg_m_iff : zg_m f P t p q = true ↔ q < P ∧ zg_n f t q = zg_n f t p := by
  unfold zg_m; rw [Bool.and_eq_true, decide_eq_true_eq, decide_eq_true_eq]
theorem zg_m_eq (h : zg_n f t q = zg_n f t p) : zg_m f P t q = zg_m f P t p := by
  funext r; unfold zg_m; rw [h]
theorem zg_n_len (h : zg_d t p ≤ zy_len (f p)) : zy_len (zg_n f t p) = zg_d t p := by
  unfold zg_n; rw [zy_len_pf]; omega
theorem zg_n_d (h1 : zg_d t p ≤ zy_len (f p)) (h2 : zg_d t q ≤ zy_len (f q)) (e : zg_n f t q = zg_n f t p) : zg_d t q = zg_d t p := by
  have := congrArg zy_len e
  rw [zg_n_len h1, zg_n_len h2] at this; exact this
/-- p may be called -/
def zh_E (f : Nat → Nat) (P b : Nat) (A : Nat → Bool) (t p : Nat) : Prop := p < P ∧ A p = true ∧ 0 < zg_d t p ∧ zy_cnt (zg_m f P t p) P ≤ b
def zh_to (f : Nat → Nat) (P t p : Nat) : Nat := zg_mv P t (zg_m f P t p)
theorem zh_to_S (hS : zg_S f P t) : zg_S f P (zh_to f P t p) := zg_mv_S hS
theorem zh_to_eq (h : zg_n f t q = zg_n f t p) : zh_to f P t q = zh_to f P t p := by unfold zh_to; rw [zg_m_eq h]
theorem zh_low (hP : P ≤ 10) (hS : zg_S f P t) (h : zh_E f P b A t p) : ∃ q, q < P ∧ zg_e f P b t q = true ∧ zg_n f t q = zg_n f t p ∧ zh_to f P t q = zh_to f P t p := by
  obtain ⟨h1, h2, h3, h4⟩ := h
  obtain ⟨q, q1, q2, q3⟩ := zh_le (zg_m_self (f := f) (s := t) h1)
  have qm := zg_m_iff.mp q2
  have em := zg_m_eq (P := P) qm.2
  have ed := zg_n_d (hS.2 p h1) (hS.2 q qm.1) qm.2
  refine ⟨q, qm.1, ?_, qm.2, zh_to_eq qm.2⟩
  unfold zg_e
  rw [em, Bool.and_eq_true, Bool.and_eq_true, decide_eq_true_eq, decide_eq_true_eq, decide_eq_true_eq]
  refine ⟨by omega, (zy_low_iff (zy_orN10 _ hP) (by omega)).mpr ⟨?_, fun r hr => ?_⟩, h4⟩
  · rw [zy_orN_bit, q2, decide_eq_true qm.1]; rfl
  · rw [zy_orN_bit, q3 r hr, Bool.and_false]
theorem zh_e_E (hp : p < P) (h : zg_e f P b t p = true) : zh_E f P b (fun _ => true) t p := by
  unfold zg_e at h
  rw [Bool.and_eq_true, Bool.and_eq_true, decide_eq_true_eq, decide_eq_true_eq, decide_eq_true_eq] at h
  exact ⟨hp, rfl, h.1, h.2.2⟩
/-- a way of k calls from x -/
def zh_W (f : Nat → Nat) (P b : Nat) (A : Nat → Bool) (x : Nat) : Nat → Nat → Prop
  | 0, t => t = x
  | k + 1, t => ∃ u p, zh_W f P b A x k u ∧ zh_E f P b A u p ∧ t = zh_to f P u p
theorem zh_W_S (hx : zg_S f P x) : ∀ {k t : Nat}, zh_W f P b A x k t → zg_S f P t
  | 0, t, h => by
    have h : t = x := h
    rw [h]; exact hx
  | k + 1, t, ⟨u, p, h1, h2, e⟩ => by rw [e]; exact zh_to_S (zh_W_S hx h1)
theorem zh_W_add : ∀ {j k y t : Nat}, zh_W f P b A x k y → zh_W f P b A y j t → zh_W f P b A x (k + j) t
  | 0, k, y, t, h1, h2 => by
    have h2 : t = y := h2
    rw [h2]; exact h1
  | j + 1, k, y, t, h1, ⟨u, p, g1, g2, e⟩ => ⟨u, p, zh_W_add h1 g1, g2, e⟩
theorem zh_W_mono (h : ∀ p, A p = true → B p = true) : ∀ {k t : Nat}, zh_W f P b A x k t → zh_W f P b B x k t
  | 0, t, e => e
  | k + 1, t, ⟨u, p, h1, ⟨e1, e2, e3⟩, e⟩ => ⟨u, p, zh_W_mono h h1, ⟨e1, h p e2, e3⟩, e⟩
/-- the lists of a search: the calls, and perhaps the state itself -/
def zh_nx (f : Nat → Nat) (P b : Nat) (A : Nat → Bool) (nx : Nat → List Nat) : Prop :=
  ∀ t, zg_S f P t → (∀ u, u ∈ nx t → u = t ∨ ∃ p, zh_E f P b A t p ∧ u = zh_to f P t p) ∧ ∀ p, zh_E f P b A t p → zh_to f P t p ∈ nx t
theorem zh_nx_ref (hP : P ≤ 10) : zh_nx f P b (fun _ => true) (zg_nx f P b) := by
  intro t hS
  refine ⟨fun u hu => ?_, fun p hE => ?_⟩
  · unfold zg_nx at hu
    obtain ⟨p, hp, e⟩ := List.mem_map.mp hu
    cases he : zg_e f P b t p with
    | true => rw [he, if_pos rfl] at e; exact Or.inr ⟨p, zh_e_E (List.mem_range.mp hp) he, e.symm⟩
    | false => rw [he, if_neg (by decide)] at e; exact Or.inl e.symm
  · obtain ⟨q, q1, q2, q3, q4⟩ := zh_low hP hS hE
    have at_ := zg_nx_at (f := f) (b := b) (s := t) q1
    rw [q2, if_pos rfl] at at_
    rw [← q4]
    exact List.mem_of_getElem? at_
/-- all that comes, each once, with its fewest calls -/
def zh_T (f : Nat → Nat) (P b : Nat) (A : Nat → Bool) (n : Nat) (s c : Nat → Nat) : Prop :=
  (∀ i k, i < n → k < n → s i = s k → i = k) ∧ (∀ i, i < n → zg_S f P (s i) ∧ zh_W f P b A (zg_st f P) (c i) (s i)) ∧
  ∀ k t, zh_W f P b A (zg_st f P) k t → ∃ i, i < n ∧ s i = t ∧ c i ≤ k
theorem zh_W_P (hS : zg_S f P (zg_st f P)) (hx : zh_nx f P b A nx) : ∀ {k t : Nat}, zh_W f P b A (zg_st f P) k t → zq_P (zg_st f P) nx k t
  | 0, t, h => h
  | k + 1, t, ⟨u, p, h1, h2, e⟩ => ⟨u, zh_W_P hS hx h1, by rw [e]; exact (hx u (zh_W_S hS h1)).2 p h2⟩
theorem zh_P_W (hS : zg_S f P (zg_st f P)) (hx : zh_nx f P b A nx) : ∀ {k t : Nat}, zq_P (zg_st f P) nx k t → ∃ j, j ≤ k ∧ zh_W f P b A (zg_st f P) j t
  | 0, t, h => ⟨0, Nat.le_refl _, h⟩
  | k + 1, t, ⟨u, h1, h2⟩ => by
    obtain ⟨j, j1, j2⟩ := zh_P_W hS hx h1
    rcases (hx u (zh_W_S hS j2)).1 t h2 with e | ⟨p, e1, e2⟩
    · rw [e]; exact ⟨j, by omega, j2⟩
    · exact ⟨j + 1, by omega, u, p, j2, e1, e2⟩
theorem zh_T_of {s ps c : Nat → Nat} {n : Nat} (hS : zg_S f P (zg_st f P)) (hx : zh_nx f P b A nx) (hB : zq_B (zg_st f P) nx s ps c n n 0) : zh_T f P b A n s c := by
  have hu := hB.2.1
  refine ⟨hu, fun i hi => ?_, fun k t hw => zq_all hB k t (zh_W_P hS hx hw)⟩
  obtain ⟨j, j1, j2⟩ := zh_P_W hS hx (zq_reach hB i hi)
  obtain ⟨i', i1, i2, i3⟩ := zq_all hB j _ (zh_W_P hS hx j2)
  have := hu i' i i1 hi i2
  rw [this] at i3
  rw [show c i = j by omega]
  exact ⟨zh_W_S hS j2, j2⟩
/-- people of one first letter are all in, or all out -/
def zh_sat (f : Nat → Nat) (P : Nat) (A : Nat → Bool) : Prop := ∀ p q, p < P → q < P → f p ≠ 0 → zy_pf (f p) 1 = zy_pf (f q) 1 → A p = A q
/-- q's name begins p's -/
def zh_pr (f : Nat → Nat) (q p : Nat) : Prop := zy_pf (f p) (zy_len (f q)) = f q
/-- how many have p's name -/
def zh_nk (f : Nat → Nat) (P p : Nat) : Nat := zy_cnt (fun q => decide (f q = f p)) P
/-- what a state that comes keeps to -/
def zh_V (f : Nat → Nat) (P b : Nat) (A : Nat → Bool) (t : Nat) : Prop :=
  zg_S f P t ∧ (∀ p q, p < P → q < P → zh_pr f q p → zg_d t q ≤ zg_d t p) ∧ ∀ p, p < P → (A p = false ∨ b < zh_nk f P p) → zg_d t p = zy_len (f p)
theorem zh_pr_eq (h : f q = f p) : zh_pr f q p := by unfold zh_pr; rw [h]; exact zy_pf_self (Nat.le_refl _)
theorem zh_pr_len (h : zh_pr f q p) : zy_len (f q) ≤ zy_len (f p) := by
  have := congrArg zy_len h
  rw [zy_len_pf] at this; omega
theorem zh_one (hS : zg_S f P t) (hp : p < P) (hd : 0 < zg_d t p) (hm : zg_m f P t p q = true) : zy_pf (f p) 1 = zy_pf (f q) 1 := by
  have hq := zg_m_iff.mp hm
  have ed := zg_n_d (hS.2 p hp) (hS.2 q hq.1) hq.2
  have e := congrArg (fun x => zy_pf x 1) hq.2
  unfold zg_n at e
  rw [zy_pf_pf (by omega), zy_pf_pf (by omega)] at e
  exact e.symm
theorem zh_f0 (hS : zg_S f P t) (hp : p < P) (hd : 0 < zg_d t p) : f p ≠ 0 := fun e => by
  have := hS.2 p hp
  rw [e, zy_len_0] at this; omega
theorem zh_mA (hA : zh_sat f P A) (hS : zg_S f P t) (hp : p < P) (hd : 0 < zg_d t p) (hm : zg_m f P t p q = true) : A q = A p :=
  (hA p q hp (zg_m_iff.mp hm).1 (zh_f0 hS hp hd) (zh_one hS hp hd hm)).symm
theorem zg_st_d (hf : ∀ p, p < P → zy_len (f p) ≤ 8) (hp : p < P) : zg_d (zg_st f P) p = zy_len (f p) := by
  unfold zg_st; exact zg_d_c (fun q hq => by have := hf q hq; omega) p hp
theorem zg_st_S (hf : ∀ p, p < P → zy_len (f p) ≤ 8) : zg_S f P (zg_st f P) :=
  ⟨zg_c_lt (fun q hq => by have := hf q hq; omega), fun p hp => by rw [zg_st_d hf hp]; exact Nat.le_refl _⟩
theorem zh_V_st (hf : ∀ p, p < P → zy_len (f p) ≤ 8) : zh_V f P b A (zg_st f P) :=
  ⟨zg_st_S hf, fun p q hp hq h => by rw [zg_st_d hf hp, zg_st_d hf hq]; exact zh_pr_len h, fun p hp _ => zg_st_d hf hp⟩
theorem zh_V_to (hA : zh_sat f P A) (hV : zh_V f P b A t) (hE : zh_E f P b A t p) : zh_V f P b A (zh_to f P t p) := by
  obtain ⟨hS, h1, h2⟩ := hV
  obtain ⟨hp, hAp, hd, hc⟩ := hE
  have nm : ∀ x y, x < P → y < P → zh_pr f y x → zg_d t y = zg_d t x → zg_m f P t p x = true → zg_m f P t p y = true := fun x y hx hy hxy ed mx => by
    refine zg_m_iff.mpr ⟨hy, ?_⟩
    rw [← (zg_m_iff.mp mx).2]
    unfold zg_n
    have hh : zy_pf (f y) (zg_d t y) = zy_pf (zy_pf (f x) (zy_len (f y))) (zg_d t y) := by unfold zh_pr at hxy; rw [hxy]
    rw [hh, zy_pf_pf (hS.2 y hy), ed]
  refine ⟨zg_mv_S hS, fun x y hx hy hxy => ?_, fun x hx hh => ?_⟩
  · unfold zh_to
    rw [zg_mv_d hx, zg_mv_d hy]
    have h3 := h1 x y hx hy hxy
    have b1 := zg_bt_le (m := zg_m f P t p) (q := y)
    cases mx : zg_m f P t p x with
    | false => rw [zg_bt_0 mx]; omega
    | true =>
      rw [zg_bt_1 mx]
      by_cases lt : zg_d t y < zg_d t x
      · omega
      · rw [zg_bt_1 (nm x y hx hy hxy (by omega) mx)]; omega
  · unfold zh_to
    rw [zg_mv_d hx]
    cases mx : zg_m f P t p x with
    | false => rw [zg_bt_0 mx]; exact h2 x hx hh
    | true =>
      have := zh_mA hA hS hp hd mx
      rcases hh with e | e
      · rw [this, hAp] at e; cases e
      · have : zh_nk f P x ≤ zy_cnt (zg_m f P t p) P := by
          refine zy_cnt_mono (fun q hq e => ?_)
          have e := of_decide_eq_true e
          have g1 := h1 x q hx hq (zh_pr_eq e)
          have g2 := h1 q x hq hx (zh_pr_eq e.symm)
          exact nm x q hx hq (zh_pr_eq e) (by omega) mx
        omega
theorem zh_W_V (hf : ∀ p, p < P → zy_len (f p) ≤ 8) (hA : zh_sat f P A) : ∀ {k t : Nat}, zh_W f P b A (zg_st f P) k t → zh_V f P b A t
  | 0, t, h => by
    have h : t = zg_st f P := h
    rw [h]; exact zh_V_st hf
  | k + 1, t, ⟨u, p, h1, h2, e⟩ => by rw [e]; exact zh_V_to hA (zh_W_V hf hA h1) h2
theorem zh_V_W (hf : ∀ p, p < P → zy_len (f p) ≤ 8) (hA : zh_sat f P A) : ∀ N t : Nat, zg_ls f P t = N → zh_V f P b A t → ∃ k, zh_W f P b A (zg_st f P) k t := by
  intro N
  induction N using Nat.strongRecOn with
  | _ N ih =>
    intro t hN hV
    obtain ⟨hS, h1, h2⟩ := id hV
    by_cases hm : ∃ p, p < P ∧ zg_d t p < zy_len (f p)
    · obtain ⟨p0, hp0, hm0⟩ := hm
      obtain ⟨p, hp, hmv, hmax⟩ := zh_max (m := fun p => zg_d t p < zy_len (f p)) (κ := fun p => zg_d t p * 16 + zy_len (f p)) hp0 hm0
      have l8 := hf p hp
      have same : ∀ q, q < P → f q = f p → zg_d t q = zg_d t p := fun q hq e => by
        have g1 := h1 p q hp hq (zh_pr_eq e)
        have g2 := h1 q p hq hp (zh_pr_eq e.symm)
        omega
      have ud : ∀ q, q < P → zg_d (zg_c P (fun q => zg_d t q + if f q = f p then 1 else 0)) q = zg_d t q + if f q = f p then 1 else 0 := fun q hq =>
        zg_d_c (fun r hr => by have := hS.2 r hr; have := hf r hr; split <;> omega) q hq
      have uS : zg_S f P (zg_c P (fun q => zg_d t q + if f q = f p then 1 else 0)) := by
        refine ⟨zg_c_lt (fun r hr => by have := hS.2 r hr; have := hf r hr; split <;> omega), fun q hq => ?_⟩
        rw [ud q hq]
        have := hS.2 q hq
        split
        · rename_i e
          have := same q hq e
          rw [e]; omega
        · omega
      generalize hu : zg_c P (fun q => zg_d t q + if f q = f p then 1 else 0) = u at ud uS
      have u1 : ∀ q, q < P → f q = f p → zg_d u q = zg_d t p + 1 := fun q hq e => by rw [ud q hq, if_pos e, same q hq e]
      have u0 : ∀ q, q < P → f q ≠ f p → zg_d u q = zg_d t q := fun q hq e => by rw [ud q hq, if_neg e]; rfl
      have up := u1 p hp rfl
      have hfp : f p ≠ 0 := fun e => by rw [e, zy_len_0] at hmv; omega
      have hAp : A p = true := by
        cases e : A p with
        | true => rfl
        | false => have := h2 p hp (Or.inl e); omega
      have uV : zh_V f P b A u := by
        refine ⟨uS, fun r q hr hq hrq => ?_, fun r hr hh => ?_⟩
        · have g := h1 r q hr hq hrq
          by_cases eq : f q = f p
          · by_cases er : f r = f p
            · rw [u1 q hq eq, u1 r hr er]; exact Nat.le_refl _
            · rw [u1 q hq eq, u0 r hr er]
              have sq := same q hq eq
              by_cases lt : zg_d t q < zg_d t r
              · omega
              · have lr := zh_pr_len hrq
                rw [eq] at lr
                have nl : zy_len (f r) ≠ zy_len (f p) := fun e => by
                  unfold zh_pr at hrq
                  rw [eq, zy_pf_self (by omega)] at hrq
                  exact er hrq
                have := hmax r hr (by omega)
                have := hf r hr
                omega
          · rw [u0 q hq eq]
            by_cases er : f r = f p
            · rw [u1 r hr er]; have := same r hr er; omega
            · rw [u0 r hr er]; exact g
        · by_cases er : f r = f p
          · have : zg_d t r = zy_len (f r) := h2 r hr hh
            rw [same r hr er, er] at this; omega
          · rw [u0 r hr er]; exact h2 r hr hh
      have mm : ∀ q, q < P → (zg_m f P u p q = true ↔ f q = f p) := fun q hq => by
        constructor
        · intro e
          have e := (zg_m_iff.mp e).2
          have ed := zg_n_d (uS.2 p hp) (uS.2 q hq) e
          by_cases eq : f q = f p
          · exact eq
          · rw [u0 q hq eq, up] at ed
            have lq := hf q hq
            by_cases mv : zg_d t q < zy_len (f q)
            · have := hmax q hq mv; omega
            · have hq2 := hS.2 q hq
              have eq2 : zg_d t q = zy_len (f q) := by omega
              unfold zg_n at e
              rw [u0 q hq eq, zy_pf_self (by omega), up, ← ed, eq2] at e
              have := h1 p q hp hq e.symm
              omega
        · intro eq
          refine zg_m_iff.mpr ⟨hq, ?_⟩
          unfold zg_n
          rw [u1 q hq eq, up, eq]
      have cn : zy_cnt (zg_m f P u p) P = zh_nk f P p := zy_cnt_cong (fun q hq => by
        by_cases e : f q = f p
        · rw [(mm q hq).mpr e, decide_eq_true e]
        · rw [decide_eq_false e]
          cases z : zg_m f P u p q with
          | false => rfl
          | true => exact absurd ((mm q hq).mp z) e)
      have uE : zh_E f P b A u p := ⟨hp, hAp, by omega, by
        rw [cn]
        by_cases z : b < zh_nk f P p
        · have := h2 p hp (Or.inr z); omega
        · omega⟩
      have eto : zh_to f P u p = t := by
        unfold zh_to
        refine zg_ext zg_mv_lt hS.1 (fun q hq => ?_)
        rw [zg_mv_d hq]
        by_cases e : f q = f p
        · rw [zg_bt_1 ((mm q hq).mpr e), u1 q hq e, same q hq e]; omega
        · rw [zg_bt_0, u0 q hq e]
          · rfl
          · cases z : zg_m f P u p q with
            | false => rfl
            | true => exact absurd ((mm q hq).mp z) e
      have ls := zg_ls_mv (m := zg_m f P u p) uS (fun q hq e => by
        rw [u1 q hq ((mm q hq).mp e)]; omega)
      have c1 := zy_cnt_pos hp (zg_m_self (f := f) (s := u) hp)
      unfold zh_to at eto
      rw [eto] at ls
      obtain ⟨k, hk⟩ := ih (zg_ls f P u) (by omega) u rfl uV
      exact ⟨k + 1, u, p, hk, uE, eto.symm⟩
    · refine ⟨0, zg_ext hS.1 (zg_st_S hf).1 (fun q hq => ?_)⟩
      rw [zg_st_d hf hq]
      have := hS.2 q hq
      by_cases z : zg_d t q < zy_len (f q)
      · exact absurd ⟨q, hq, z⟩ hm
      · omega
theorem zh_come (hf : ∀ p, p < P → zy_len (f p) ≤ 8) (hA : zh_sat f P A) : (∃ k, zh_W f P b A (zg_st f P) k t) ↔ zh_V f P b A t :=
  ⟨fun ⟨_, h⟩ => zh_W_V hf hA h, fun h => zh_V_W hf hA _ t rfl h⟩
end HE
