/-! ===== search: the ways are the states ===== -/
theorem zg_pr_al {w : Nat → Bool} : ∀ n, zg_pr (fun i => (w i).toNat) n = (zg_al w n).toNat
  | 0 => rfl
  | n + 1 => by
    rw [zg_pr, zg_pr_al n, zg_al]
    cases zg_al w n <;> cases w n <;> rfl
section NV
variable {f π : Nat → Nat} {P N b : Nat}
/-- the boat doesn't bear them -/
def zs_stay (f π : Nat → Nat) (N b i : Nat) : Bool := decide (b < zy_cnt (fun j => decide (f (π j) = f (π i))) N)
def zs_W0 (f π : Nat → Nat) (N b i l : Nat) : Nat := (!(zs_stay f π N b i && decide (l < zy_len (f (π i))))).toNat
def zs_ok (f π : Nat → Nat) (N b e : Nat) : Bool := zg_al (fun i => !(zs_lst f π N i) || !(zs_stay f π N b i && decide (zs_d e i < zy_len (f (π i))))) N
/-- how many states can come -/
def zs_nV (f π : Nat → Nat) (N b : Nat) : Nat := ((zs_X f π N N).filter (zs_ok f π N b)).length
theorem zs_S_W0 : zs_S f π N (zs_W0 f π N b) N = zs_nV f π N b := by
  unfold zs_S zs_nV
  rw [← zs_su_cnt]
  refine zs_su_cong (fun e _ => ?_)
  unfold zs_wt zs_ok
  rw [← zg_pr_al]
  refine zg_pr_cong (fun i _ => ?_)
  unfold zs_W0
  cases zs_lst f π N i <;> rfl
theorem zs_πP (hF : zs_F f P) (hO : zs_Om f 10 N π) {i : Nat} (hi : i < N) : π i < P := by
  obtain ⟨h1, h2⟩ := hO.2.1 i hi
  by_cases z : π i < P
  · exact z
  · exact absurd (hF.2.2 _ (by omega) h1) h2
/-- people counted by places -/
theorem zs_cnt_pl (hF : zs_F f P) (hO : zs_Om f 10 N π) {m : Nat → Bool} (hm : ∀ p, p < P → m p = true → f p ≠ 0) : zy_cnt (fun j => m (π j)) N = zy_cnt m P := by
  have hP := hF.1
  have n1 : (((List.range N).filter (fun j => m (π j))).map π).Nodup := zh_nd hO.2.2.1
  have n2 : ((List.range P).filter m).Nodup := List.Pairwise.filter m List.nodup_range
  have same : ∀ p, p ∈ ((List.range N).filter (fun j => m (π j))).map π ↔ p ∈ (List.range P).filter m := fun p => by
    rw [List.mem_map, List.mem_filter, List.mem_range]
    constructor
    · rintro ⟨j, hj, e⟩
      obtain ⟨j1, j2⟩ := List.mem_filter.mp hj
      rw [← e]
      exact ⟨zs_πP hF hO (List.mem_range.mp j1), j2⟩
    · rintro ⟨h1, h2⟩
      obtain ⟨j, j1, j2⟩ := hO.2.2.2.1 p (by omega) (hm p h1 h2)
      exact ⟨j, List.mem_filter.mpr ⟨List.mem_range.mpr j1, by rw [j2]; exact h2⟩, j2⟩
  have l1 := List.Nodup.length_le_of_subset n1 (fun p hp => (same p).mp hp)
  have l2 := List.Nodup.length_le_of_subset n2 (fun p hp => (same p).mpr hp)
  rw [List.length_map] at l1 l2
  rw [zy_cnt_len, zy_cnt_len]
  omega
theorem zs_nk (hF : zs_F f P) (hO : zs_Om f 10 N π) {i : Nat} (hi : i < N) : zy_cnt (fun j => decide (f (π j) = f (π i))) N = zh_nk f P (π i) :=
  zs_cnt_pl hF hO (m := fun q => decide (f q = f (π i))) (fun p _ e => by rw [of_decide_eq_true e]; exact (hO.2.1 i hi).2)
/-- the last place of a name -/
def zs_lpn (f π : Nat → Nat) (c : Nat) : Nat → Nat
  | 0 => 0
  | n + 1 => if f (π n) = c then n else zs_lpn f π c n
theorem zs_lpn_ok {c : Nat} : ∀ {n k : Nat}, k < n → f (π k) = c → zs_lpn f π c n < n ∧ f (π (zs_lpn f π c n)) = c ∧ ∀ j, zs_lpn f π c n < j → j < n → f (π j) ≠ c
  | 0, k, h, _ => by omega
  | n + 1, k, h, e => by
    rw [zs_lpn]
    by_cases z : f (π n) = c
    · rw [if_pos z]; exact ⟨by omega, z, fun j j1 j2 => by omega⟩
    · rw [if_neg z]
      have : k ≠ n := fun q => by rw [q] at e; exact z e
      obtain ⟨a1, a2, a3⟩ := zs_lpn_ok (n := n) (k := k) (by omega) e
      refine ⟨by omega, a2, fun j j1 j2 => ?_⟩
      by_cases q : j = n
      · rw [q]; exact z
      · exact a3 j j1 (by omega)
theorem zs_lp_ok {k : Nat} (hk : k < N) : zs_lpn f π (f (π k)) N < N ∧ f (π (zs_lpn f π (f (π k)) N)) = f (π k) ∧ zs_lst f π N (zs_lpn f π (f (π k)) N) = true := by
  obtain ⟨a1, a2, a3⟩ := zs_lpn_ok (f := f) (π := π) hk rfl
  refine ⟨a1, a2, ?_⟩
  unfold zs_lst
  rw [Bool.not_eq_true', Bool.and_eq_false_iff]
  by_cases z : zs_lpn f π (f (π k)) N + 1 < N
  · exact Or.inr (decide_eq_false (by rw [a2]; exact a3 _ (by omega) z))
  · exact Or.inl (decide_eq_false z)
theorem zs_lp_self (hF : zs_F f P) (hO : zs_Om f 10 N π) {i : Nat} (hi : i < N) (hl : zs_lst f π N i = true) : zs_lpn f π (f (π i)) N = i := by
  obtain ⟨a1, a2, a3⟩ := zs_lpn_ok (f := f) (π := π) hi rfl
  by_cases l1 : zs_lpn f π (f (π i)) N < i
  · exact absurd rfl (a3 i l1 hi)
  · by_cases l2 : i < zs_lpn f π (f (π i)) N
    · exfalso
      have k1 := hO.2.2.2.2 i (i + 1) (by omega) (by omega)
      have k2 : zs_k (f (π (i + 1))) ≤ zs_k (f (π i)) := by
        by_cases q : i + 1 = zs_lpn f π (f (π i)) N
        · rw [q, a2]; exact Nat.le_refl _
        · have := hO.2.2.2.2 (i + 1) _ (by omega) a1
          rw [a2] at this; exact this
      have hi1 : i + 1 < N := by omega
      obtain ⟨o1, o2⟩ := hO.2.1 i hi
      obtain ⟨o3, o4⟩ := hO.2.1 (i + 1) hi1
      have e := zs_k_inj o4 o2 (hF.2.1 _ o3).2 (hF.2.1 _ o1).2 (zs_F8 hF o3) (zs_F8 hF o1) (by omega)
      unfold zs_lst at hl
      rw [decide_eq_true hi1, decide_eq_true e] at hl
      cases hl
    · omega
def zs_en (f π : Nat → Nat) (N t : Nat) : Nat := zs_c N (fun i => if zs_lst f π N i then zg_d t (π i) else 0)
theorem zs_en_d {t i : Nat} (hi : i < N) : zs_d (zs_en f π N t) i = if zs_lst f π N i then zg_d t (π i) else 0 := by
  unfold zs_en
  exact zs_d_c (fun j _ => by
    have := zg_d_lt (s := t) (p := π j)
    split <;> omega) i hi
theorem zs_en_lt {t : Nat} : zs_en f π N t < 32 ^ N := zs_c_lt (fun j _ => by
    have := zg_d_lt (s := t) (p := π j)
    split <;> omega)
theorem zs_8 (hF : zs_F f P) (hO : zs_Om f 10 N π) : ∀ i, i < N → zy_len (f (π i)) ≤ 8 := fun i hi => zs_F8 hF (hO.2.1 i hi).1
theorem zs_X_iff (hF : zs_F f P) (hO : zs_Om f 10 N π) {e : Nat} : e ∈ (zs_X f π N N).filter (zs_ok f π N b) ↔ e < 32 ^ N ∧ ∀ i, i < N → (zs_lst f π N i = true → zs_lo f π i e ≤ zs_d e i ∧ zs_d e i ≤ zy_len (f (π i)) ∧ (b < zh_nk f P (π i) → zs_d e i = zy_len (f (π i)))) ∧ (zs_lst f π N i = false → zs_d e i = 0) := by
  rw [List.mem_filter, zs_X_mem (zs_8 hF hO) N (Nat.le_refl _)]
  unfold zs_ok
  rw [zg_al_iff]
  constructor
  · rintro ⟨⟨h1, h2⟩, h3⟩
    refine ⟨h1, fun i hi => ⟨fun hl => ?_, (h2 i hi).2⟩⟩
    obtain ⟨a1, a2⟩ := (h2 i hi).1 hl
    refine ⟨a1, a2, fun hb => ?_⟩
    have h := h3 i hi
    unfold zs_stay at h
    rw [zs_nk hF hO hi, hl, decide_eq_true hb, Bool.not_true, Bool.false_or, Bool.true_and, Bool.not_eq_true', decide_eq_false_iff_not] at h
    omega
  · rintro ⟨h1, h2⟩
    refine ⟨⟨h1, fun i hi => ⟨fun hl => ⟨((h2 i hi).1 hl).1, ((h2 i hi).1 hl).2.1⟩, (h2 i hi).2⟩⟩, fun i hi => ?_⟩
    cases hl : zs_lst f π N i with
    | false => rfl
    | true =>
      rw [Bool.not_true, Bool.false_or]
      unfold zs_stay
      rw [zs_nk hF hO hi]
      by_cases hb : b < zh_nk f P (π i)
      · rw [((h2 i hi).1 hl).2.2 hb, decide_eq_false (show ¬ zy_len (f (π i)) < zy_len (f (π i)) by omega), Bool.and_false]; rfl
      · rw [decide_eq_false hb, Bool.false_and]; rfl
theorem zs_en_mem (hF : zs_F f P) (hO : zs_Om f 10 N π) {t : Nat} (hV : zh_V f P b (fun _ => true) t) : zs_en f π N t ∈ (zs_X f π N N).filter (zs_ok f π N b) := by
  obtain ⟨hS, h1, h2⟩ := hV
  refine (zs_X_iff hF hO).mpr ⟨zs_en_lt, fun i hi => ⟨fun hl => ?_, fun hl => by rw [zs_en_d hi, hl]; rfl⟩⟩
  have hp := zs_πP hF hO hi
  rw [zs_en_d hi, hl, if_pos rfl]
  refine ⟨?_, hS.2 _ hp, fun hb => h2 _ hp (Or.inr hb)⟩
  unfold zs_lo
  cases e : zs_hd f π i with
  | none => exact Nat.zero_le _
  | some a =>
    obtain ⟨a1, a2, -⟩ := zs_hd_at e
    show zs_d (zs_en f π N t) a ≤ _
    rw [zs_en_d (by omega), zs_hd_lst hi e, if_pos rfl]
    exact h1 _ _ hp (zs_πP hF hO (by omega)) a2.2
theorem zs_en_inj (hF : zs_F f P) (hO : zs_Om f 10 N π) {t u : Nat} (hV : zh_V f P b (fun _ => true) t) (hU : zh_V f P b (fun _ => true) u) (e : zs_en f π N t = zs_en f π N u) : t = u := by
  have hP := hF.1
  refine zg_ext hV.1.1 hU.1.1 (fun p hp => ?_)
  by_cases h0 : f p = 0
  · have a := hV.1.2 p hp
    have c := hU.1.2 p hp
    rw [h0, zy_len_0] at a c
    omega
  · obtain ⟨i, i1, i2⟩ := hO.2.2.2.1 p (by omega) h0
    obtain ⟨r1, r2, r3⟩ := zs_lp_ok (f := f) (π := π) i1
    have ed := congrArg (fun s => zs_d s (zs_lpn f π (f (π i)) N)) e
    have ed : zs_d (zs_en f π N t) (zs_lpn f π (f (π i)) N) = zs_d (zs_en f π N u) (zs_lpn f π (f (π i)) N) := ed
    rw [zs_en_d r1, zs_en_d r1, r3, if_pos rfl, if_pos rfl] at ed
    rw [i2] at ed r2 r1
    have hq := zs_πP hF hO r1
    have t1 := hV.2.1 _ _ hp hq (zh_pr_eq r2)
    have t2 := hV.2.1 _ _ hq hp (zh_pr_eq r2.symm)
    have u1 := hU.2.1 _ _ hp hq (zh_pr_eq r2)
    have u2 := hU.2.1 _ _ hq hp (zh_pr_eq r2.symm)
    omega
def zs_de (f π : Nat → Nat) (P N e : Nat) : Nat := zg_c P (fun p => if f p = 0 then 0 else zs_d e (zs_lpn f π (f p) N))
theorem zs_de_ok (hF : zs_F f P) (hO : zs_Om f 10 N π) {e : Nat} (he : e ∈ (zs_X f π N N).filter (zs_ok f π N b)) : zh_V f P b (fun _ => true) (zs_de f π P N e) ∧ zs_en f π N (zs_de f π P N e) = e := by
  obtain ⟨h1, h2⟩ := (zs_X_iff hF hO).mp he
  have hP := hF.1
  have pl : ∀ p, p < P → f p ≠ 0 → zs_lpn f π (f p) N < N ∧ f (π (zs_lpn f π (f p) N)) = f p ∧ zs_lst f π N (zs_lpn f π (f p) N) = true := fun p hp h0 => by
    obtain ⟨i, i1, i2⟩ := hO.2.2.2.1 p (by omega) h0
    have := zs_lp_ok (f := f) (π := π) i1
    rw [i2] at this
    exact this
  obtain ⟨dS, dd⟩ := zh_mix_lt (f := f) (P := P) (F := fun p => if f p = 0 then 0 else zs_d e (zs_lpn f π (f p) N)) (fun p hp => by
    by_cases h0 : f p = 0
    · rw [if_pos h0]; exact Nat.zero_le _
    · obtain ⟨r1, r2, r3⟩ := pl p hp h0
      rw [if_neg h0]
      have := ((h2 _ r1).1 r3).2.1
      rw [r2] at this; exact this) (fun p hp => zs_F8 hF (by omega))
  have dn : ∀ p, p < P → f p ≠ 0 → zg_d (zs_de f π P N e) p = zs_d e (zs_lpn f π (f p) N) := fun p hp h0 => by
    unfold zs_de; rw [dd p hp, if_neg h0]
  have d0 : ∀ p, p < P → f p = 0 → zg_d (zs_de f π P N e) p = 0 := fun p hp h0 => by
    unfold zs_de; rw [dd p hp, if_pos h0]
  -- down the beginnings
  have down : ∀ i, i < N → zs_lst f π N i = true → ∀ q, q < P → f q ≠ 0 → zy_pf (f (π i)) (zy_len (f q)) = f q → zs_d e (zs_lpn f π (f q) N) ≤ zs_d e i := by
    intro i
    induction i using Nat.strongRecOn with
    | _ i ih =>
      intro hi hl q hq q0 hpr
      obtain ⟨o1, o2⟩ := hO.2.1 i hi
      obtain ⟨r1, r2, r3⟩ := pl q hq q0
      by_cases same : f q = f (π i)
      · rw [same, zs_lp_self hF hO hi hl]; exact Nat.le_refl _
      · have lq : zy_len (f q) < zy_len (f (π i)) := by
          have := congrArg zy_len hpr
          rw [zy_len_pf] at this
          by_cases z : zy_len (f q) < zy_len (f (π i))
          · exact z
          · rw [zy_pf_self (by omega)] at hpr; exact absurd hpr.symm same
        have kq := zs_k_pr o2 (hF.2.1 _ o1).2 (zs_F8 hF o1) lq hpr
        have rlt : zs_lpn f π (f q) N < i := by
          by_cases z : zs_lpn f π (f q) N < i
          · exact z
          · by_cases z2 : zs_lpn f π (f q) N = i
            · rw [z2] at r2; exact absurd r2.symm same
            · have := hO.2.2.2.2 i _ (by omega) r1
              rw [r2] at this; omega
        have qah : zs_ah f π i (zs_lpn f π (f q) N) := ⟨by rw [r2]; exact same, by rw [r2]; exact hpr⟩
        cases eh : zs_hd f π i with
        | none =>
          have ok := zs_hdn_ok (f := f) (π := π) (i := i) i
          unfold zs_hd at eh
          rw [eh] at ok
          exact absurd qah (ok _ rlt)
        | some a =>
          obtain ⟨a1, a2, a3⟩ := zs_hd_at eh
          have al := zs_hd_lst hi eh
          have lo := ((h2 i hi).1 hl).1
          unfold zs_lo at lo
          rw [eh] at lo
          have lo : zs_d e a ≤ zs_d e i := lo
          obtain ⟨o3, o4⟩ := hO.2.1 a (by omega)
          have hpa : zy_pf (f (π a)) (zy_len (f q)) = f q := by
            by_cases le : zy_len (f q) ≤ zy_len (f (π a))
            · rw [← a2.2, zy_pf_pf le]; exact hpr
            · exfalso
              have hpr2 : zy_pf (f q) (zy_len (f (π a))) = f (π a) := by
                rw [← hpr, zy_pf_pf (by omega)]; exact a2.2
              have k2 := zs_k_pr q0 (hF.2.1 q (by omega)).2 (zs_F8 hF (by omega)) (by omega) hpr2
              have : a < zs_lpn f π (f q) N := by
                by_cases z : a < zs_lpn f π (f q) N
                · exact z
                · by_cases z2 : zs_lpn f π (f q) N = a
                  · rw [z2] at r2; rw [r2] at k2; omega
                  · have := hO.2.2.2.2 (zs_lpn f π (f q) N) a (by omega) (by omega)
                    rw [r2] at this; omega
              exact a3 _ this rlt qah
          have := ih a a1 (by omega) al q hq q0 hpa
          omega
  refine ⟨⟨dS, fun p q hp hq hpr => ?_, fun p hp hh => ?_⟩, ?_⟩
  · by_cases q0 : f q = 0
    · show zg_d (zs_de f π P N e) q ≤ _
      rw [d0 q hq q0]; exact Nat.zero_le _
    · have p0 : f p ≠ 0 := fun z => by
        unfold zh_pr at hpr
        rw [z] at hpr
        have := zy_pf_le 0 (zy_len (f q))
        omega
      obtain ⟨r1, r2, r3⟩ := pl p hp p0
      show zg_d (zs_de f π P N e) q ≤ zg_d (zs_de f π P N e) p
      rw [dn q hq q0, dn p hp p0]
      exact down _ r1 r3 q hq q0 (by rw [r2]; exact hpr)
  · show zg_d (zs_de f π P N e) p = _
    rcases hh with z | hb
    · cases z
    · by_cases p0 : f p = 0
      · rw [d0 p hp p0, p0, zy_len_0]
      · obtain ⟨r1, r2, r3⟩ := pl p hp p0
        rw [dn p hp p0]
        have := ((h2 _ r1).1 r3).2.2 (by
          unfold zh_nk at hb ⊢
          rw [r2]; exact hb)
        rw [r2] at this; exact this
  · refine zs_dext zs_en_lt h1 (fun i hi => ?_)
    rw [zs_en_d hi]
    cases hl : zs_lst f π N i with
    | true =>
      rw [if_pos rfl, dn _ (zs_πP hF hO hi) (hO.2.1 i hi).2, zs_lp_self hF hO hi hl]
    | false => rw [if_neg (by decide)]; exact ((h2 i hi).2 hl).symm
/-- no more come than are counted -/
theorem zs_nV_le (hF : zs_F f P) (hO : zs_Om f 10 N π) {l : List Nat} (hn : l.Nodup) (hV : ∀ t, t ∈ l → zh_V f P b (fun _ => true) t) : l.length ≤ zs_nV f π N b := by
  have n1 : (l.map (zs_en f π N)).Nodup := List.pairwise_map.mpr (List.Pairwise.imp_of_mem (fun {x y} hx hy hne e => hne (zs_en_inj hF hO (hV x hx) (hV y hy) e)) hn)
  have := List.Nodup.length_le_of_subset n1 (fun e he => by
    obtain ⟨t, ht, rfl⟩ := List.mem_map.mp he
    exact zs_en_mem hF hO (hV t ht))
  rw [List.length_map] at this
  exact this
theorem zs_nV_T (hF : zs_F f P) (hO : zs_Om f 10 N π) {n : Nat} {s c : Nat → Nat} (hT : zh_T f P b (fun _ => true) n s c) : n = zs_nV f π N b := by
  have hP := hF.1
  have hf : ∀ p, p < P → zy_len (f p) ≤ 8 := fun p hp => zs_F8 hF (by omega)
  have n1 : ((List.range n).map s).Nodup := by
    have := zh_nd (s := s) (p := fun _ => true) hT.1
    rw [List.filter_eq_self.mpr (fun _ _ => rfl)] at this
    exact this
  have l1 := zs_nV_le hF hO n1 (fun t ht => by
    obtain ⟨i, hi, rfl⟩ := List.mem_map.mp ht
    exact zh_W_V hf zh_sat_all (hT.2.1 i (List.mem_range.mp hi)).2)
  have n2 : (((zs_X f π N N).filter (zs_ok f π N b)).map (zs_de f π P N)).Nodup := by
    refine List.pairwise_map.mpr (List.Pairwise.imp_of_mem (fun {x y} hx hy hne e => hne ?_) (List.Pairwise.filter _ (zs_X_nd (zs_8 hF hO) N (Nat.le_refl _))))
    rw [← (zs_de_ok hF hO hx).2, ← (zs_de_ok hF hO hy).2, e]
  have l2 := List.Nodup.length_le_of_subset n2 (l₂ := (List.range n).map s) (fun t ht => by
    obtain ⟨e, he, rfl⟩ := List.mem_map.mp ht
    obtain ⟨k, hk⟩ := (zh_come hf zh_sat_all).mpr (zs_de_ok hF hO he).1
    obtain ⟨i, i1, i2, -⟩ := hT.2.2 _ _ hk
    exact List.mem_map.mpr ⟨i, List.mem_range.mpr i1, i2⟩)
  rw [List.length_map, List.length_range] at l1
  rw [List.length_map, List.length_map, List.length_range] at l2
  unfold zs_nV at l1 ⊢
  omega
/-- too many -/
theorem zs_nV_many (hF : zs_F f P) (hO : zs_Om f 10 N π) (h : zg_many f P b) : 20001 ≤ zs_nV f π N b := by
  have hP := hF.1
  have hf : ∀ p, p < P → zy_len (f p) ≤ 8 := fun p hp => zs_F8 hF (by omega)
  obtain ⟨s, h1, h2⟩ := h
  have n1 : ((List.range 20001).map s).Nodup := by
    have := zh_nd (s := s) (p := fun _ => true) h2
    rw [List.filter_eq_self.mpr (fun _ _ => rfl)] at this
    exact this
  have l1 := zs_nV_le hF hO n1 (b := b) (fun t ht => by
    obtain ⟨i, hi, rfl⟩ := List.mem_map.mp ht
    obtain ⟨k, hk⟩ := h1 i (List.mem_range.mp hi)
    obtain ⟨j, -, hj⟩ := zh_P_W (zg_st_S hf) (zh_nx_ref hF.1) hk
    exact zh_W_V hf zh_sat_all hj)
  rw [List.length_map, List.length_range] at l1
  exact l1
end NV
