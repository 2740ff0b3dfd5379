/-! ===== search: how many states can come, pure ===== -/
def zs_su (w : Nat → Nat) : List Nat → Nat
  | [] => 0
  | a :: l => w a + zs_su w l
theorem zs_su_app {w : Nat → Nat} : ∀ {l k : List Nat}, zs_su w (l ++ k) = zs_su w l + zs_su w k
  | [], k => by rw [List.nil_append, zs_su, Nat.zero_add]
  | a :: l, k => by rw [List.cons_append, zs_su, zs_su, zs_su_app]; omega
theorem zs_su_fm {w : Nat → Nat} {F : Nat → List Nat} : ∀ {l : List Nat}, zs_su w (l.flatMap F) = zs_su (fun e => zs_su w (F e)) l
  | [] => rfl
  | a :: l => by rw [List.flatMap_cons, zs_su_app, zs_su, zs_su_fm]
theorem zs_su_map {w g : Nat → Nat} : ∀ {l : List Nat}, zs_su w (l.map g) = zs_su (fun v => w (g v)) l
  | [] => rfl
  | a :: l => by rw [List.map_cons, zs_su, zs_su, zs_su_map]
theorem zs_su_mul {w : Nat → Nat} {k : Nat} : ∀ {l : List Nat}, zs_su (fun v => k * w v) l = k * zs_su w l
  | [] => rfl
  | a :: l => by rw [zs_su, zs_su, zs_su_mul, Nat.mul_add]
theorem zs_su_cong {w w' : Nat → Nat} : ∀ {l : List Nat}, (∀ a, a ∈ l → w a = w' a) → zs_su w l = zs_su w' l
  | [], _ => rfl
  | a :: l, h => by rw [zs_su, zs_su, h a List.mem_cons_self, zs_su_cong (fun x hx => h x (List.mem_cons_of_mem _ hx))]
theorem zs_su_cnt {p : Nat → Bool} : ∀ {l : List Nat}, zs_su (fun e => (p e).toNat) l = (l.filter p).length
  | [] => rfl
  | a :: l => by
    rw [zs_su, zs_su_cnt]
    cases e : p a with
    | true => rw [List.filter_cons_of_pos e, List.length_cons]; show 1 + _ = _; omega
    | false => rw [List.filter_cons_of_neg (by rw [e]; decide)]; show 0 + _ = _; omega
/-- the sum of k from x on -/
def zs_ab (w : Nat → Nat) : Nat → Nat → Nat
  | 0, _ => 0
  | k + 1, x => w x + zs_ab w k (x + 1)
theorem zs_su_ab {w : Nat → Nat} : ∀ {k x : Nat}, zs_su w (List.range' x k) = zs_ab w k x
  | 0, x => rfl
  | k + 1, x => by rw [List.range'_succ, zs_su, zs_su_ab, zs_ab]
theorem zs_d_lo {e v j i : Nat} (h : i < j) : zs_d (e + v * 32 ^ j) i = zs_d e i := by
  unfold zs_d
  rw [show 32 ^ j = 32 ^ i * (32 ^ (j - i - 1) * 32) by rw [← Nat.pow_succ, ← Nat.pow_add]; congr 1; omega]
  rw [show v * (32 ^ i * (32 ^ (j - i - 1) * 32)) = 32 ^ i * (v * 32 ^ (j - i - 1) * 32) by rw [Nat.mul_left_comm, Nat.mul_assoc]]
  rw [Nat.add_mul_div_left _ _ (Nat.pow_pos (by omega)), Nat.add_mul_mod_self_right]
theorem zs_d_at {e v j : Nat} (he : e < 32 ^ j) (hv : v < 32) : zs_d (e + v * 32 ^ j) j = v := by
  unfold zs_d
  rw [Nat.add_mul_div_right _ _ (Nat.pow_pos (by omega)), Nat.div_eq_of_lt he, Nat.zero_add, Nat.mod_eq_of_lt hv]
theorem zs_c_d : ∀ {N s : Nat}, zs_c N (zs_d s) = s % 32 ^ N
  | 0, s => by rw [Nat.pow_zero, Nat.mod_one]; rfl
  | N + 1, s => by rw [zs_c, zs_c_d (N := N) (s := s), Nat.pow_succ, Nat.mod_mul, zs_d, Nat.mul_comm]
theorem zs_dext {s t N : Nat} (hs : s < 32 ^ N) (ht : t < 32 ^ N) (h : ∀ p, p < N → zs_d s p = zs_d t p) : s = t := by
  have e := zs_c_cong (N := N) h
  rw [zs_c_d, zs_c_d, Nat.mod_eq_of_lt hs, Nat.mod_eq_of_lt ht] at e
  exact e
theorem zs_d_lt {s i : Nat} : zs_d s i < 32 := Nat.mod_lt _ (by omega)
section DP
variable {f π : Nat → Nat} {P N b : Nat}
/-- the last place of a name -/
def zs_lst (f π : Nat → Nat) (N i : Nat) : Bool := !(decide (i + 1 < N) && decide (f (π (i + 1)) = f (π i)))
def zs_ahb (f π : Nat → Nat) (i j : Nat) : Bool := !decide (f (π j) = f (π i)) && decide (zy_pf (f (π i)) (zy_len (f (π j))) = f (π j))
theorem zs_ahb_iff {i j : Nat} : zs_ahb f π i j = true ↔ zs_ah f π i j := by
  unfold zs_ahb zs_ah
  rw [Bool.and_eq_true, Bool.not_eq_true', decide_eq_false_iff_not, decide_eq_true_eq]
/-- the last place ahead -/
def zs_hdn (f π : Nat → Nat) (i : Nat) : Nat → Option Nat
  | 0 => none
  | j + 1 => if zs_ahb f π i j then some j else zs_hdn f π i j
def zs_hd (f π : Nat → Nat) (i : Nat) : Option Nat := zs_hdn f π i i
theorem zs_hdn_ok {i : Nat} : ∀ n, match zs_hdn f π i n with
    | none => ∀ k, k < n → ¬ zs_ah f π i k
    | some j => j < n ∧ zs_ah f π i j ∧ ∀ k, j < k → k < n → ¬ zs_ah f π i k
  | 0 => fun k hk => by omega
  | n + 1 => by
    have ih := zs_hdn_ok (i := i) n
    rw [zs_hdn]
    by_cases e : zs_ahb f π i n = true
    · rw [if_pos e]
      exact ⟨by omega, zs_ahb_iff.mp e, fun k k1 k2 => by omega⟩
    · rw [if_neg e]
      have ne : ¬ zs_ah f π i n := fun q => e (zs_ahb_iff.mpr q)
      cases z : zs_hdn f π i n with
      | none =>
        rw [z] at ih
        intro k hk
        by_cases q : k = n
        · rw [q]; exact ne
        · exact ih k (by omega)
      | some j =>
        rw [z] at ih
        refine ⟨by omega, ih.2.1, fun k k1 k2 => ?_⟩
        by_cases q : k = n
        · rw [q]; exact ne
        · exact ih.2.2 k k1 (by omega)
theorem zs_hd_none {i : Nat} (h : ∀ k, k < i → ¬ zs_ah f π i k) : zs_hd f π i = none := by
  have ok := zs_hdn_ok (f := f) (π := π) (i := i) i
  unfold zs_hd
  cases z : zs_hdn f π i i with
  | none => rfl
  | some j => rw [z] at ok; exact absurd ok.2.1 (h j ok.1)
theorem zs_hd_some {i j : Nat} (h1 : j < i) (h2 : zs_ah f π i j) (h3 : ∀ k, j < k → k < i → ¬ zs_ah f π i k) : zs_hd f π i = some j := by
  have ok := zs_hdn_ok (f := f) (π := π) (i := i) i
  unfold zs_hd
  cases z : zs_hdn f π i i with
  | none => rw [z] at ok; exact absurd h2 (ok j h1)
  | some k =>
    rw [z] at ok
    by_cases l1 : j < k
    · exact absurd ok.2.1 (h3 k l1 ok.1)
    · by_cases l2 : k < j
      · exact absurd h2 (ok.2.2 j l2 h1)
      · rw [show k = j by omega]
theorem zs_hd_at {i j : Nat} (h : zs_hd f π i = some j) : j < i ∧ zs_ah f π i j ∧ ∀ k, j < k → k < i → ¬ zs_ah f π i k := by
  have ok := zs_hdn_ok (f := f) (π := π) (i := i) i
  unfold zs_hd at h
  rw [h] at ok
  exact ok
theorem zs_hd_lst {i j : Nat} (hi : i < N) (h : zs_hd f π i = some j) : zs_lst f π N j = true := by
  obtain ⟨h1, h2, h3⟩ := zs_hd_at h
  unfold zs_lst
  rw [Bool.not_eq_true', Bool.and_eq_false_iff]
  by_cases e : f (π (j + 1)) = f (π j)
  · exfalso
    by_cases z : j + 1 = i
    · rw [z] at e; exact h2.1 e.symm
    · refine h3 (j + 1) (by omega) (by omega) ?_
      unfold zs_ah
      rw [e]; exact h2
  · exact Or.inr (decide_eq_false e)
/-- at least so many letters -/
def zs_lo (f π : Nat → Nat) (i e : Nat) : Nat := match zs_hd f π i with
  | none => 0
  | some a => zs_d e a
/-- the letters at the last places of the names below j -/
def zs_X (f π : Nat → Nat) (N : Nat) : Nat → List Nat
  | 0 => [0]
  | j + 1 => if zs_lst f π N j then (zs_X f π N j).flatMap (fun e => (List.range' (zs_lo f π j e) (zy_len (f (π j)) + 1 - zs_lo f π j e)).map (fun v => e + v * 32 ^ j)) else zs_X f π N j
theorem zs_lo_ext {i j e v : Nat} (hij : i ≤ j) : zs_lo f π i (e + v * 32 ^ j) = zs_lo f π i e := by
  unfold zs_lo
  cases h : zs_hd f π i with
  | none => rfl
  | some a =>
    obtain ⟨h1, -⟩ := zs_hd_at h
    exact zs_d_lo (by omega)
theorem zs_X_mem (h8 : ∀ i, i < N → zy_len (f (π i)) ≤ 8) : ∀ j, j ≤ N → ∀ e, e ∈ zs_X f π N j ↔ e < 32 ^ j ∧ ∀ i, i < j → (zs_lst f π N i = true → zs_lo f π i e ≤ zs_d e i ∧ zs_d e i ≤ zy_len (f (π i))) ∧ (zs_lst f π N i = false → zs_d e i = 0) := by
  intro j
  induction j with
  | zero =>
    intro _ e
    rw [zs_X, List.mem_singleton, Nat.pow_zero]
    exact ⟨fun h => ⟨by omega, fun i hi => by omega⟩, fun h => by omega⟩
  | succ j ih =>
    intro hj e
    have l8 := h8 j (by omega)
    have p0 : 0 < 32 ^ j := Nat.pow_pos (by omega)
    have split : e = e % 32 ^ j + e / 32 ^ j * 32 ^ j := by have := Nat.mod_add_div e (32 ^ j); rw [Nat.mul_comm] at this; omega
    rw [zs_X]
    cases hr : zs_lst f π N j with
    | true =>
      rw [if_pos rfl, List.mem_flatMap]
      constructor
      · rintro ⟨e0, h0, hm⟩
        obtain ⟨v, hv, ev⟩ := List.mem_map.mp hm
        obtain ⟨a1, a2⟩ := (ih (by omega) e0).mp h0
        obtain ⟨b1, b2⟩ := List.mem_range'_1.mp hv
        have v9 : v ≤ zy_len (f (π j)) := by omega
        rw [← ev]
        refine ⟨?_, fun i hi => ?_⟩
        · have h3 : v * 32 ^ j ≤ 31 * 32 ^ j := Nat.mul_le_mul_right _ (by omega)
          rw [Nat.pow_succ]; omega
        · by_cases z : i = j
          · rw [z, zs_d_at a1 (by omega), zs_lo_ext (Nat.le_refl _)]
            exact ⟨fun _ => ⟨b1, v9⟩, fun q => by rw [hr] at q; cases q⟩
          · rw [zs_d_lo (by omega), zs_lo_ext (by omega)]; exact a2 i (by omega)
      · rintro ⟨h1, h2⟩
        have hlt := Nat.mod_lt e p0
        have vl : e / 32 ^ j < 32 := Nat.div_lt_of_lt_mul (by rw [← Nat.pow_succ]; exact h1)
        refine ⟨e % 32 ^ j, (ih (by omega) _).mpr ⟨hlt, fun i hi => ?_⟩, List.mem_map.mpr ⟨e / 32 ^ j, List.mem_range'_1.mpr ?_, split.symm⟩⟩
        · have := h2 i (by omega)
          rw [split, zs_d_lo hi, zs_lo_ext (by omega)] at this
          exact this
        · have := (h2 j (by omega)).1 hr
          rw [split, zs_d_at hlt vl, zs_lo_ext (Nat.le_refl _)] at this
          omega
    | false =>
      rw [if_neg (by decide), ih (by omega)]
      constructor
      · rintro ⟨h1, h2⟩
        refine ⟨by rw [Nat.pow_succ]; omega, fun i hi => ?_⟩
        by_cases z : i = j
        · rw [z]
          refine ⟨fun q => (by rw [hr] at q; cases q), fun _ => ?_⟩
          unfold zs_d
          rw [Nat.div_eq_of_lt h1]
        · exact h2 i (by omega)
      · rintro ⟨h1, h2⟩
        refine ⟨?_, fun i hi => h2 i (by omega)⟩
        have hz := (h2 j (by omega)).2 hr
        unfold zs_d at hz
        have vl : e / 32 ^ j < 32 := Nat.div_lt_of_lt_mul (by rw [← Nat.pow_succ]; exact h1)
        rw [Nat.mod_eq_of_lt vl] at hz
        have := Nat.mod_lt e p0
        rw [hz, Nat.zero_mul] at split
        omega
theorem zs_X_nd (h8 : ∀ i, i < N → zy_len (f (π i)) ≤ 8) : ∀ j, j ≤ N → (zs_X f π N j).Nodup := by
  intro j
  induction j with
  | zero => intro _; rw [zs_X]; exact List.nodup_cons.mpr ⟨fun h => (by cases h), List.nodup_nil⟩
  | succ j ih =>
    intro hj
    have p0 : 0 < 32 ^ j := Nat.pow_pos (by omega)
    rw [zs_X]
    split
    · have em : ∀ e v, e ∈ zs_X f π N j → (e + v * 32 ^ j) % 32 ^ j = e ∧ (e + v * 32 ^ j) / 32 ^ j = v := fun e v he => by
        have := ((zs_X_mem h8 j (by omega) e).mp he).1
        rw [Nat.add_mul_mod_self_right, Nat.mod_eq_of_lt this, Nat.add_mul_div_right _ _ p0, Nat.div_eq_of_lt this, Nat.zero_add]
        exact ⟨rfl, rfl⟩
      refine List.pairwise_flatMap.mpr ⟨fun e he => ?_, ?_⟩
      · refine List.pairwise_map.mpr (List.Pairwise.imp (fun {a b} hab e2 => ?_) (List.nodup_range' (s := zs_lo f π j e)))
        have := congrArg (fun x => x / 32 ^ j) e2
        rw [(em e a he).2, (em e b he).2] at this
        exact hab this
      · refine List.Pairwise.imp_of_mem (fun {a b} ha hb hne x hx y hy e2 => ?_) (ih (by omega))
        obtain ⟨v, -, ev⟩ := List.mem_map.mp hx
        obtain ⟨w, -, ew⟩ := List.mem_map.mp hy
        rw [← ev, ← ew] at e2
        have := congrArg (fun x => x % 32 ^ j) e2
        rw [(em a v ha).1, (em b w hb).1] at this
        exact hne this
    · exact ih (by omega)
/-- the weight of a row of letters -/
def zs_wt (f π : Nat → Nat) (N : Nat) (W : Nat → Nat → Nat) (j e : Nat) : Nat := zg_pr (fun i => if zs_lst f π N i then W i (zs_d e i) else 1) j
def zs_S (f π : Nat → Nat) (N : Nat) (W : Nat → Nat → Nat) (j : Nat) : Nat := zs_su (zs_wt f π N W j) (zs_X f π N j)
theorem zs_wt_ext {W : Nat → Nat → Nat} {j e v : Nat} (he : e < 32 ^ j) (hv : v < 32) (hr : zs_lst f π N j = true) : zs_wt f π N W (j + 1) (e + v * 32 ^ j) = zs_wt f π N W j e * W j v := by
  unfold zs_wt
  rw [zg_pr, hr, if_pos rfl, zs_d_at he hv]
  congr 1
  exact zg_pr_cong (fun i hi => by rw [zs_d_lo hi])
theorem zs_S_skip {W : Nat → Nat → Nat} {j : Nat} (hr : zs_lst f π N j = false) : zs_S f π N W (j + 1) = zs_S f π N W j := by
  unfold zs_S
  rw [zs_X, hr, if_neg (by decide)]
  refine zs_su_cong (fun e _ => ?_)
  unfold zs_wt
  rw [zg_pr, hr, if_neg (by decide), Nat.mul_one]
theorem zs_S_rep (h8 : ∀ i, i < N → zy_len (f (π i)) ≤ 8) {W : Nat → Nat → Nat} {j : Nat} (hj : j < N) (hr : zs_lst f π N j = true) : zs_S f π N W (j + 1) = zs_su (fun e => zs_wt f π N W j e * zs_ab (W j) (zy_len (f (π j)) + 1 - zs_lo f π j e) (zs_lo f π j e)) (zs_X f π N j) := by
  unfold zs_S
  rw [zs_X, hr, if_pos rfl, zs_su_fm]
  refine zs_su_cong (fun e he => ?_)
  have elt := ((zs_X_mem h8 j (by omega) e).mp he).1
  have l8 := h8 j hj
  rw [zs_su_map, ← zs_su_ab, ← zs_su_mul]
  refine zs_su_cong (fun v hv => ?_)
  have := List.mem_range'_1.mp hv
  exact zs_wt_ext elt (by omega) hr
/-- nobody is ahead -/
theorem zs_S_none (h8 : ∀ i, i < N → zy_len (f (π i)) ≤ 8) {W : Nat → Nat → Nat} {j : Nat} (hj : j < N) (hr : zs_lst f π N j = true) (hn : zs_hd f π j = none) : zs_S f π N W (j + 1) = zs_ab (W j) (zy_len (f (π j)) + 1) 0 * zs_S f π N W j := by
  rw [zs_S_rep h8 hj hr]
  have : ∀ e, zs_lo f π j e = 0 := fun e => by unfold zs_lo; rw [hn]
  unfold zs_S
  rw [← zs_su_mul]
  refine zs_su_cong (fun e _ => ?_)
  rw [this, Nat.sub_zero, Nat.mul_comm]
theorem zg_pr_up {g : Nat → Nat} {x k : Nat} : ∀ {n : Nat}, x < n → zg_pr (fun i => if i = x then g i * k else g i) n = zg_pr g n * k
  | 0, h => by omega
  | n + 1, h => by
    rw [zg_pr, zg_pr]
    by_cases e : n = x
    · rw [if_pos e, zg_pr_cong (h := g) (fun i hi => if_neg (by omega)), Nat.mul_assoc]
    · rw [if_neg e, zg_pr_up (by omega), Nat.mul_right_comm]
/-- the ways are multiplied into the one ahead -/
theorem zs_S_some (h8 : ∀ i, i < N → zy_len (f (π i)) ≤ 8) {W W' : Nat → Nat → Nat} {j a : Nat} (hj : j < N) (hr : zs_lst f π N j = true) (hn : zs_hd f π j = some a) (h1 : ∀ i, i ≠ a → W' i = W i) (h2 : ∀ x, x ≤ zy_len (f (π a)) → W' a x = W a x * zs_ab (W j) (zy_len (f (π j)) + 1 - x) x) : zs_S f π N W (j + 1) = zs_S f π N W' j := by
  rw [zs_S_rep h8 hj hr]
  obtain ⟨a1, a2, a3⟩ := zs_hd_at hn
  have ra := zs_hd_lst hj hn
  unfold zs_S
  refine zs_su_cong (fun e he => ?_)
  have dl := ((((zs_X_mem h8 j (by omega) e).mp he).2 a a1).1 ra).2
  have elo : zs_lo f π j e = zs_d e a := by unfold zs_lo; rw [hn]
  rw [elo]
  unfold zs_wt
  rw [← zg_pr_up a1]
  refine zg_pr_cong (fun i hi => ?_)
  by_cases z : i = a
  · rw [if_pos z, z, ra, if_pos rfl, if_pos rfl, h2 _ dl]
  · rw [if_neg z, h1 i z]
end DP
