/-! ===== names, safe: class = reference ===== -/
/-- rows that never change -/
def zc_S (I : Nat → Nat → Int32) : Prop := ∀ j, j < 6 → I 1 j = nI (7 ^ j) ∧ I 2 j = nI (6 ^ j) ∧ I 78 j = 0
def zr_S : List (Nat × Nat × Nat) := [(1, 0, 6), (2, 0, 6), (78, 0, 6)]
theorem zc_S_cong {I I' : Nat → Nat → Int32} (h : zc_S I) (hf : ∀ a k, zy_in zr_S a k → I' a k = I a k) : zc_S I' := fun j hj => by
  rw [hf 1 j (zy_in_at 0 1 0 6 j rfl (by omega) hj), hf 2 j (zy_in_at 1 2 0 6 j rfl (by omega) hj), hf 78 j (zy_in_at 2 78 0 6 j rfl (by omega) hj)]; exact h j hj
/-- a frame beside the picks -/
def zy_frp (W : List (Nat × Nat × Nat)) (I I' : Nat → Nat → Int32) : Prop := ∀ a k, ¬ zy_in W a k → ¬ (81 ≤ a ∧ a ≤ 116) → I' a k = I a k
theorem zy_frp_on {W R : List (Nat × Nat × Nat)} {I I' : Nat → Nat → Int32} (h : zy_frp W I I') (hd : zy_dis W R = true) (hr : (R.all fun r => Nat.blt r.1 81 || Nat.blt 116 r.1) = true) : ∀ a k, zy_in R a k → I' a k = I a k := fun a k hk => h a k (zy_dis_ok hd hk) (fun q => by
  obtain ⟨w, hw, e1, -⟩ := hk
  have := List.all_eq_true.mp hr w hw
  rw [Bool.or_eq_true] at this
  rcases this with z | z
  · have := Nat.le_of_ble_eq_true z; omega
  · have := Nat.le_of_ble_eq_true z; omega)
theorem zy_frp_tr {W : List (Nat × Nat × Nat)} {I J K : Nat → Nat → Int32} (h1 : zy_frp W I J) (h2 : zy_frp W J K) : zy_frp W I K := fun a k x y => (h2 a k x y).trans (h1 a k x y)
theorem zy_frp_of {V W : List (Nat × Nat × Nat)} {I J : Nat → Nat → Int32} (h : zy_fr V I J) (hs : zy_subW V W = true) : zy_frp W I J := fun a k x _ => zy_fr_mono h hs a k x
def zw_nn : List (Nat × Nat × Nat) := [(6, 1, 2), (7, 0, 12), (76, 6, 10), (77, 0, 10), (132, 0, 2), (133, 0, 12), (150, 0, 6)]
theorem zy_frp_c {I J : Nat → Nat → Int32} (h : zn_fc I J) : zy_frp zw_nn I J := fun a k x y => h a k y (fun q => x (by rw [q.1, q.2]; exact zy_in_at 2 76 6 10 9 rfl (by omega) (by omega)))
def zw_n2 : List (Nat × Nat × Nat) := [(76, 6, 10), (77, 0, 10), (132, 0, 1), (150, 0, 6)]
theorem zy_frp_c2 {I J : Nat → Nat → Int32} (h : zn_fc I J) : zy_frp zw_n2 I J := fun a k x y => h a k y (fun q => x (by rw [q.1, q.2]; exact zy_in_at 0 76 6 10 9 rfl (by omega) (by omega)))
theorem zn_ak_fr {I : Nat → Nat → Int32} {n ap : Nat} {bs : List Nat} (h : bs.length ≤ 10) : zy_fr [(76, 6, 9), (77, 0, 10)] I (zn_ak I n ap bs) := by
  unfold zn_ak
  refine zy_fr_u2 (zy_fr_tr (zy_fr_u2 (zy_fr_u2 (zy_fr_rf _ _) (zy_in_at 0 76 6 9 7 rfl (by omega) (by omega))) (zy_in_at 0 76 6 9 8 rfl (by omega) (by omega))) (zy_fr_mono (zo_wr_fr h) (by decide))) (zy_in_at 0 76 6 9 6 rfl (by omega) (by omega))
theorem zy_tell_of {J : Nat → Nat → Int32} {vs : List Int32} (h1 : J 6 1 = nI vs.length) (h2 : ∀ k, k < vs.length → J 7 k = vs.getD k 0) : J = zy_tell J vs := by
  funext a k
  unfold zy_tell
  by_cases z : a = 6 ∧ k = 1
  · rw [if_pos z, z.1, z.2, h1]
  · rw [if_neg z]
    by_cases z2 : a = 7 ∧ k < vs.length
    · rw [if_pos z2, z2.1, h2 k z2.2]
    · rw [if_neg z2]
section YJn
variable {l : Launch} {E : zx_E} {d : Nat} {I : Nat → Nat → Int32} {L : Nat → Nat → Int64} {Y : zx_Y} {Qo : Option Value → zx_M → Prop} {Q : Int32 → zx_M → Prop} {Qv : zx_M → Prop} {pr : Nat → Nat} {n k many P : Nat} {f : Nat → Nat}
theorem zy_c47 (hY : zx_lay Y) {x y : Int32} (hq : Q (if decide (1 ≤ x.toInt ∧ x.toInt ≤ 5 ∧ 0 ≤ y.toInt ∧ y.toInt ≤ 8) then 1 else 0) (I, L, Y)) : zx_Ci l E d 47 [.int x, .int y] (I, L, Y) Q := by
  have e1 : (1 : Int32).toInt = 1 := by decide
  have e5 : (5 : Int32).toInt = 5 := by decide
  have e8 : (8 : Int32).toInt = 8 := by decide
  refine sg_47_0 hY _ _ ?_
  rw [Int32.lt_iff_toInt_lt, Int32.lt_iff_toInt_lt, Int32.lt_iff_toInt_lt, Int32.lt_iff_toInt_lt, e1, e5, e8, zy_i0]
  refine ⟨fun h => ⟨_, rfl, ?_⟩, fun h => ⟨fun h2 => ⟨_, rfl, ?_⟩, fun h2 => ⟨fun h3 => ⟨_, rfl, ?_⟩, fun h3 => ⟨fun h4 => ⟨_, rfl, ?_⟩, fun h4 => ⟨_, rfl, ?_⟩⟩⟩⟩⟩
  · rw [decide_eq_false (by omega)] at hq; exact hq
  · rw [decide_eq_false (by omega)] at hq; exact hq
  · rw [decide_eq_false (by omega)] at hq; exact hq
  · rw [decide_eq_false (by omega)] at hq; exact hq
  · rw [decide_eq_true (by omega)] at hq; exact hq
def zn_pr (I : Nat → Nat → Int32) : Nat → Nat := fun x => zy_n (I 11 (x - 1))
theorem zn_pr_ok (hPr : zc_P I) {x : Nat} (h1 : 1 ≤ x) (h6 : x ≤ 6) : I 11 (x - 1) = nI (zn_pr I x) ∧ zn_pr I x ≤ 9 ∧ I 137 (x - 1) = nI (zn_pr I x) := by
  obtain ⟨e, v, v1, v9, ev⟩ := hPr (x - 1) (by omega)
  have : zn_pr I x = v := by unfold zn_pr; rw [ev, zy_n_nI (by omega)]
  rw [this, e, ev]; exact ⟨rfl, v9, rfl⟩
/-- what the class knows behind ask -/
theorem zn_E_of {p2 : Nat} {J : Nat → Nat → Int32} {bs : List Nat} {ap : Nat} (h7 : J 76 7 = nI n) (h8 : J 76 8 = nI ap) (hn1 : 1 ≤ n) (hn5 : n ≤ 5) (ha1 : 1 ≤ ap) (han : ap ≤ n) (hm1 : 1 ≤ many) (hm6 : many ≤ 6) (hB : zn_B J bs) (hp : p2 = 11 ∨ p2 = 78) (hpr : ∀ x, 1 ≤ x → x ≤ 6 → J p2 (x - 1) = nI (pr x) ∧ pr x ≤ 9) (hS : zc_S J) :
    zn_E (zx_u2 J 76 9 (nI many)) (zx_u2 Y.1 76 5 (some p2), Y.2) n ap many p2 bs pr := by
  obtain ⟨b1, b2, b3⟩ := hB
  have q5 : zx_u2 Y.1 76 5 (some p2) 76 5 = some p2 := zy_u2_self
  refine ⟨⟨?_, ?_, zy_u2_self⟩, ⟨hn1, hn5, ha1, han, hm1, hm6⟩, ⟨b1, ?_, fun j hj => ?_⟩, ⟨q5, hp, fun x x1 x6 => ?_⟩, fun j hj => ?_⟩
  · rw [zy_u2_nk (by omega)]; exact h7
  · rw [zy_u2_nk (by omega)]; exact h8
  · rw [zy_u2_nk (by omega)]; exact b2
  · rw [zy_u2_na (by omega)]; exact b3 j hj
  · rw [zy_u2_na (by omega)]; exact hpr x x1 x6
  · rw [zy_u2_na (by omega), zy_u2_na (by omega)]; exact ⟨(hS j hj).1, (hS j hj).2.1⟩
theorem zn_ak_B {bs : List Nat} {ap : Nat} (h : bs.length ≤ 10) (hb : ∀ b ∈ bs, b < 5764801) : zn_ak I n ap bs 76 7 = nI n ∧ zn_ak I n ap bs 76 8 = nI ap ∧ zn_B (zn_ak I n ap bs) bs := by
  unfold zn_ak
  refine ⟨by rw [zy_u2_nk (by omega), zo_wr_el (by omega), zy_u2_nk (by omega), zy_u2_self], by rw [zy_u2_nk (by omega), zo_wr_el (by omega), zy_u2_self], h, zy_u2_self, fun j hj => ⟨by rw [zy_u2_na (by omega), zo_wr_at hj], hb _ (by rw [List.getD_eq_getElem?_getD, List.getElem?_eq_getElem hj]; exact List.getElem_mem _)⟩⟩
theorem zn_bs_lt (hf : ∀ p, p < P → f p < 5764801) : ∀ b ∈ zn_bs f n k P, b < 5764801 := fun b hb => by
  obtain ⟨i, h1, rfl⟩ := zn_bs_mem P hb
  exact Nat.lt_of_le_of_lt (zy_pf_le _ _) (hf i h1)
/-- both choose out of the same -/
theorem zn_same {q : Nat} (hn5 : n ≤ 5) (hk : k ≤ 8) (hf : ∀ p, p < P → f p < 5764801) (e : Nat) : zn_rep pr q (zn_Ds (zn_bs f n k P) 0 n) e ↔ zn_rep pr q (fun e => zn_d n e ∧ zn_sfp f P k e = true) e := by
  refine zn_rep_iff (fun e => ?_) e
  have key : zn_d n e → zn_sf (zn_bs f n k P) (0 * 7 ^ n + e) = zn_sfp f P k e := fun hd => by
    rw [Nat.zero_mul, Nat.zero_add]
    exact zn_bs_sf (Nat.lt_of_lt_of_le (Nat.lt_of_lt_of_le (zn_d_lt hd) (zn_pow5 hn5)) (by omega)) hd.2 hk P hf
  constructor
  · rintro ⟨a, b⟩; exact ⟨a, by rw [← key a]; exact b⟩
  · rintro ⟨a, b⟩; exact ⟨a, by rw [key a]; exact b⟩
def zn_Yp (Y : zx_Y) (p : Nat) : zx_Y := (zx_u2 Y.1 76 5 (some p), Y.2)
theorem zj_names (hY : zx_lay Y) {P S b r : Nat} {H : List (Nat × Nat)} {vs : List Int32} (hC : zc_C I P S b r H) (hPr : zc_P I) (hR : zc_R I vs) (hS : zc_S I) {x y z : Int32}
    (hq : ∀ v I' vs' Y', Y' = Y ∨ (∃ p, Y' = zn_Yp Y p) → zx_lay Y' → zc_R I' vs' → zy_frp zw_nn I I' → Q v (I', L, Y')) :
    zx_Ci l E (d + 12) 143 [.ref 3, .int x, .int y, .int z] (I, L, Y) (fun v M1 => zx_lay M1.2.2 ∧ zx_Ci l E (d + 12) 246 [.ref 132, .int x, .int y, .int z] M1 (fun w M2 => w = v ∧ Q v M2)) := by
  have l0 : (0 : Int64).toInt = 0 := by decide
  have l1 : (1 : Int64).toInt = 1 := by decide
  have l5 : (5 : Int64).toInt = 5 := by decide
  have l6 : (6 : Int64).toInt = 6 := by decide
  have l8 : (8 : Int64).toInt = 8 := by decide
  have i1 : (1 : Int32).toInt = 1 := by decide
  have i6 : (6 : Int32).toInt = 6 := by decide
  have kq : ∀ v, Q v (zx_u2 I 132 0 0, L, Y) := fun v => hq _ _ vs Y (Or.inl rfl) hY (zc_R_cong hR (zy_fr_on zy_thr_fr (by decide))) (zy_frp_of zy_thr_fr (by decide))
  have no : ¬ ((1 ≤ x.toInt ∧ x.toInt ≤ 6) ∧ (1 ≤ y.toInt ∧ y.toInt ≤ 5 ∧ 0 ≤ z.toInt ∧ z.toInt ≤ 8)) → zx_Ci l E (d + 12) 246 [.ref 132, .int x, .int y, .int z] (I, L, Y) (fun w M2 => w = -1 ∧ Q (-1) M2) := fun h => by
    refine sg_246_0 hY _ _ _ (zy_167i hY (b := decide (1 ≤ x.toInt ∧ x.toInt ≤ 6)) (by rw [l1, l6]) ⟨hY, fun _ => ⟨_, rfl, rfl, kq _⟩, fun h1 => ?_⟩)
    rw [zy_b1, decide_eq_true_eq] at h1
    refine zy_167i hY (b := decide (1 ≤ y.toInt ∧ y.toInt ≤ 5)) (by rw [l1, l5]) ⟨hY, fun _ => ⟨_, rfl, rfl, kq _⟩, fun h2 => ?_⟩
    rw [zy_b1, decide_eq_true_eq] at h2
    refine zy_167i hY (b := decide (0 ≤ z.toInt ∧ z.toInt ≤ 8)) (by rw [l0, l8]) ⟨hY, fun h3 => ?_, fun _ => ⟨_, rfl, rfl, kq _⟩⟩
    rw [zy_b1, decide_eq_true_eq] at h3
    exact absurd ⟨h1, h2.1, h2.2, h3.1, h3.2⟩ h
  refine sg_143_0 hY _ _ _ ?_
  rw [Int32.lt_iff_toInt_lt, Int32.lt_iff_toInt_lt, i1, i6]
  refine ⟨fun h => ⟨_, rfl, hY, no (by omega)⟩, fun hx1 => ⟨fun h => ⟨_, rfl, hY, no (by omega)⟩, fun hx6 => zy_c47 hY ⟨hY, fun h => ?_, fun h => ⟨_, rfl, hY, no (by rw [zy_b0, decide_eq_false_iff_not] at h; omega)⟩⟩⟩⟩
  rw [zy_b1, decide_eq_true_eq] at h
  obtain ⟨hy1, hy5, hz0, hz8⟩ := h
  obtain ⟨many, hmany, rfl⟩ := nI_of (x := x) (fun q => by rw [Int32.lt_iff_toInt_lt, zy_i0] at q; omega)
  obtain ⟨n, hn, rfl⟩ := nI_of (x := y) (fun q => by rw [Int32.lt_iff_toInt_lt, zy_i0] at q; omega)
  obtain ⟨k, hk, rfl⟩ := nI_of (x := z) (fun q => by rw [Int32.lt_iff_toInt_lt, zy_i0] at q; omega)
  rw [nI_toInt hmany] at hx1 hx6
  rw [nI_toInt hn] at hy1 hy5
  rw [nI_toInt hk] at hz0 hz8
  have m1 : 1 ≤ many := by omega
  have m6 : many ≤ 6 := by omega
  have n1 : 1 ≤ n := by omega
  have n5 : n ≤ 5 := by omega
  have k8 : k ≤ 8 := by omega
  obtain ⟨f, f1, f2, -, -⟩ := zc_nm hC
  obtain ⟨⟨hP, h7, h3⟩, -⟩ := id hC
  have hf : ∀ p, p < P → f p < 5764801 := fun p hp => (f2 p hp).2
  have hbl := zn_bs_len (f := f) (n := n) (k := k) P
  have hbt := zn_bs_lt (n := n) (k := k) hf
  refine zy_c48 hY hP h7 (fun p hp => f1 p (by omega)) n1 n5 k8 ⟨hY, ?_⟩
  obtain ⟨g7, g8, gB⟩ := zn_ak_B (I := I) (n := n) (ap := max 1 (n - k)) (by omega) hbt
  have frA := zn_ak_fr (I := I) (n := n) (ap := max 1 (n - k)) (bs := zn_bs f n k P) (by omega)
  generalize hI1 : zn_ak I n (max 1 (n - k)) (zn_bs f n k P) = I1 at *
  have prA : ∀ x, 1 ≤ x → x ≤ 6 → I1 11 (x - 1) = nI (zn_pr I x) ∧ zn_pr I x ≤ 9 := fun x a c => by
    obtain ⟨u1, u2, -⟩ := zn_pr_ok hPr a c
    rw [zy_fr_row frA 11 6 (by decide) (by omega)]; exact ⟨u1, u2⟩
  have hE := zn_E_of (Y := Y) (many := many) (pr := zn_pr I) g7 g8 n1 n5 (by omega) (by omega) m1 m6 gB (Or.inl rfl) prA (zc_S_cong hS (zy_fr_on frA (by decide)))
  have hYp : zx_lay (zn_Yp Y 11) := zn_lay5 hY 11
  have top := zn_top_iff (zn_pk_ok (pr := zn_pr I) (q := n - max 1 (n - k)) (many := many) (bs := zn_bs f n k P) m1 n 0 n5 zn_ok_0) (fun e => zn_same (pr := zn_pr I) (q := n - max 1 (n - k)) n5 k8 hf e)
  have elm : zn_lm (n - max 1 (n - k)) many n = many := by unfold zn_lm; rw [if_neg (by omega)]
  rw [elm] at top
  rw [show d + 11 = d + 10 + 1 by omega]
  refine sg_50_0 hY _ ?_
  rw [show d + 10 = d + (5 - n) + n + 5 by omega]
  refine zy_c52 hY hE (fun J hJ hPJ => ⟨hYp, ?_⟩)
  generalize hX : zn_pk (zn_pr I) (n - max 1 (n - k)) many (zn_bs f n k P) n 0 = X at *
  have frJ : zy_frp zw_nn I J := zy_frp_tr (zy_frp_of frA (by decide)) (zy_frp_c hJ)
  have hXl := top.2.1
  -- the reference, from a memory of the class
  have model : ∀ (K : Nat → Nat → Int32) (v : Int32) (R : Nat → Nat → Int32 → Prop), zy_frp zw_nn I K → (∀ a j, 132 ≤ a → K a j = I a j) →
      (X.length < many → v = -2 ∧ Q v (zo_wr (zx_u2 K 132 0 0) 150 X, L, zn_Yp Y 11)) → (X.length = many → v = nI (zn_sum (zn_pr I) X) ∧ Q v (zy_ent (zo_wr (zx_u2 K 132 0 0) 150 X) ((zn_rs X).map nI), L, zn_Yp Y 11)) →
      zx_Ci l E (d + 12) 246 [.ref 132, .int (nI many), .int (nI n), .int (nI k)] (K, L, zn_Yp Y 11) (fun w M2 => w = v ∧ Q v M2) := by
    intro K v R hK hKhi c0 c1
    have hG : zn_G (zx_u2 K 132 0 0) n k P f (zn_pr I) := by
      refine ⟨⟨n1, n5, k8⟩, ⟨hP, ?_, fun p hp => ?_⟩, fun x a c => ?_⟩
      · rw [zy_u2_nk (by omega), hKhi _ _ (by omega)]; exact h3
      · rw [zy_u2_na (by omega), hKhi _ _ (by omega)]; exact f2 p hp
      · obtain ⟨-, u2, u3⟩ := zn_pr_ok hPr a c
        rw [zy_u2_na (by omega), hKhi _ _ (by omega)]; exact ⟨u3, u2⟩
    refine sg_246_0 hYp _ _ _ (zy_167i hYp (b := true) (by rw [l1, l6, nI_toInt hmany, decide_eq_true (by omega)]) ⟨hYp, fun h => absurd h (by decide), fun _ => ?_⟩)
    refine zy_167i hYp (b := true) (by rw [l1, l5, nI_toInt hn, decide_eq_true (by omega)]) ⟨hYp, fun h => absurd h (by decide), fun _ => ?_⟩
    refine zy_167i hYp (b := true) (by rw [l0, l8, nI_toInt hk, decide_eq_true (by omega)]) ⟨hYp, fun _ => ?_, fun h => absurd h (by decide)⟩
    rw [show d + 12 = d + 7 + 5 by omega]
    refine zy_246_49 (I := zx_u2 K 132 0 0) hYp hG m1 m6 (fun gs hg ht => ?_) (fun gs hg ht => ?_)
    · have e := zn_top_uniq ht top
      rw [e] at hg ⊢
      obtain ⟨u1, u2⟩ := c0 hg
      exact ⟨_, rfl, u1.symm, u2⟩
    · have e := zn_top_uniq ht top
      rw [e] at hg ⊢
      obtain ⟨u1, u2⟩ := c1 hg
      exact ⟨_, rfl, u1.symm, u2⟩
  have hiJ : ∀ a j, 132 ≤ a → J a j = I a j := fun a j ha => by
    rw [hJ a j (by omega) (by omega)]
    exact frA a j (fun ⟨w, hw, e1, _⟩ => by
      simp only [List.mem_cons, List.not_mem_nil, or_false] at hw
      rcases hw with rfl | rfl <;> simp at e1 <;> omega)
  have e2 : J 84 2 = nI X.length := hPJ.1
  have w150 : ∀ K : Nat → Nat → Int32, zy_frp zw_nn K (zo_wr (zx_u2 K 132 0 0) 150 X) := fun K => by
    have h6 : X.length ≤ 6 := by omega
    refine zy_frp_tr (zy_frp_of (zy_thr_fr (v := 0)) (by decide)) (fun a j hj _ => ?_)
    unfold zo_wr
    rw [if_neg (fun q => hj (by rw [q.1]; exact zy_in_at 6 150 0 6 j rfl (by omega) (by omega)))]
  have w1502 : ∀ K : Nat → Nat → Int32, zy_frp zw_n2 K (zo_wr (zx_u2 K 132 0 0) 150 X) := fun K => by
    have h6 : X.length ≤ 6 := by omega
    refine zy_frp_tr (zy_frp_of (zy_thr_fr (v := 0)) (by decide)) (fun a j hj _ => ?_)
    unfold zo_wr
    rw [if_neg (fun q => hj (by rw [q.1]; exact zy_in_at 3 150 0 6 j rfl (by omega) (by omega)))]
  dsimp only
  rw [e2, nI_leI (by omega) (by omega)]
  refine ⟨fun hle => ?_, fun hlt => ⟨_, rfl, hYp, _, rfl, hYp, ?_⟩⟩
  · have eX : X.length = many := by omega
    have hxd : ∀ x ∈ X, x ≠ 0 ∧ x < 16807 := fun x hx => by
      have hd := (top.2.2.1 x hx).1.1
      refine ⟨fun q => ?_, Nat.lt_of_lt_of_le (zn_d_lt hd) (zn_pow5 n5)⟩
      have := hd.2
      rw [q, zy_len_0] at this; omega
    obtain ⟨r1, -⟩ := zn_rs_ok (fun x hx => (hxd x hx).1) (zn_nodup top.1)
    have hws : ((zn_rs X).map nI).length ≤ 6 := by rw [List.length_map]; omega
    rw [show d + (5 - n) + n + 5 = d + 9 + 1 by omega]
    refine zy_c79 hYp (by omega) hPJ hxd (zn_nodup top.1) ⟨hYp, ?_⟩
    have hPt : zn_P (zy_tell J ((zn_rs X).map nI)) 84 (zn_pr I) X := zn_P_cong hPJ (by omega) (fun a j hj => by
      obtain ⟨w, hw, e1, _⟩ := hj
      simp only [List.mem_cons, List.not_mem_nil, or_false] at hw
      rw [zy_tell_el (by rcases hw with rfl | rfl | rfl <;> simp at e1 <;> omega)])
    refine zy_c78 hYp (by omega) hPt ⟨hYp, _, rfl, hYp, _, rfl, hYp, ?_⟩
    generalize hws2 : (zn_rs X).map nI = ws at *
    have frT : zy_fr zw_R J (zy_tell J ws) := zy_tell_fr (zy_fr_rf _ _) (by omega)
    refine model (zy_tell J ws) _ (fun _ _ _ => True) (zy_frp_tr frJ (zy_frp_of frT (by decide))) (fun a j ha => by rw [zy_tell_el (by omega)]; exact hiJ a j ha) (fun h => by omega) (fun _ => ⟨rfl, ?_⟩)
    have frE : zy_fr zw_R (zo_wr (zx_u2 (zy_tell J ws) 132 0 0) 150 X) (zy_ent (zo_wr (zx_u2 (zy_tell J ws) 132 0 0) 150 X) ws) := zy_ent_fr (zy_fr_rf _ _) (by omega)
    refine hq _ _ ws _ (Or.inr ⟨11, rfl⟩) hYp (zc_R_tell (I := J) (by omega) (fun a j ha => ?_)) (zy_frp_tr (zy_frp_tr (zy_frp_tr frJ (zy_frp_of frT (by decide))) (w150 _)) (zy_frp_of frE (by decide)))
    rw [zo_wr_el (by omega), zy_u2_na (by omega)]
  · refine model J _ (fun _ _ _ => True) frJ hiJ (fun _ => ⟨rfl, ?_⟩) (fun h => by omega)
    have frF := zy_frp_tr frJ (w150 J)
    have frG : zy_frp zw_n2 I (zo_wr (zx_u2 J 132 0 0) 150 X) := zy_frp_tr (zy_frp_tr (zy_frp_of frA (by decide)) (zy_frp_c2 hJ)) (w1502 J)
    exact hq _ _ vs _ (Or.inr ⟨11, rfl⟩) hYp (zc_R_cong hR (zy_frp_on frG (by decide) (by decide))) frF
end YJn
