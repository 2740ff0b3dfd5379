/-! ===== safe: class = reference ===== -/
theorem zn_ct_len {sf : Nat → Bool} {n : Nat} : ∀ x, zn_ct sf n x = (((List.range x).map (zl_na 6 n)).filter sf).length
  | 0 => rfl
  | x + 1 => by
    rw [List.range_succ, List.map_append, List.filter_append, List.length_append, ← zn_ct_len x, zn_ct]
    by_cases h : sf (zl_na 6 n x) = true
    · rw [if_pos h, List.map_cons, List.map_nil, List.filter_cons_of_pos h]; rfl
    · rw [if_neg h, List.map_cons, List.map_nil, List.filter_cons_of_neg h]; rfl
theorem zn_ct_ls {sf : Nat → Bool} {n : Nat} : zn_ct sf n (6 ^ n) = ((zn_ls n).filter sf).length := by
  rw [zn_ct_len]
  have nd : ((List.range (6 ^ n)).map (zl_na 6 n)).Nodup := by
    refine List.pairwise_map.mpr (List.Pairwise.imp_of_mem (R := fun a b => a < b) (fun {a b} _ hb h q => ?_) List.pairwise_lt_range)
    have := zl_na_mono (w := 6) (by omega) (by omega) n a b (List.mem_range.mp hb) h
    omega
  refine List.Perm.length_eq (List.Perm.filter _ ((List.perm_ext_iff_of_nodup nd (zn_ls_nd n)).mpr (fun e => ?_)))
  rw [zn_ls_mem, zn_na_d, List.mem_map]
  exact ⟨fun ⟨x, a, b⟩ => ⟨x, List.mem_range.mp a, b⟩, fun ⟨x, a, b⟩ => ⟨x, List.mem_range.mpr a, b⟩⟩
theorem zn_one {sf : Nat → Bool} {pr : Nat → Nat} {n q u : Nat} (hn5 : n ≤ 5) (h : zn_b1 sf pr n (6 ^ n) = some u) : zn_top (zn_k pr) 1 (zn_rep pr q (fun e => zn_d n e ∧ sf e = true)) [u] := by
  have ok := zn_b1_ok (ok := sf) (pr := pr) hn5 (6 ^ n) (Nat.le_refl _)
  rw [h] at ok
  obtain ⟨⟨y, y1, y2⟩, o1, o2⟩ := ok
  have hud : zn_d n u := (zn_na_d _).mpr ⟨y, y1, y2⟩
  have least : ∀ e, zn_d n e ∧ sf e = true → zn_k pr u ≤ zn_k pr e := fun e ⟨e1, e2⟩ => by
    obtain ⟨x, x1, x2⟩ := (zn_na_d _).mp e1
    rw [← x2]; exact o2 x x1 (by rw [x2]; exact e2)
  have lt : ∀ e, zn_d n e → e < 16807 := fun e he => Nat.lt_of_lt_of_le (zn_d_lt he) (zn_pow5 hn5)
  refine ⟨List.pairwise_singleton _ _, Nat.le_refl _, fun x hx => ?_, fun s hs => ?_⟩
  · rw [List.mem_singleton] at hx
    subst hx
    exact ⟨⟨hud, o1⟩, fun e' he _ => least e' he⟩
  · by_cases e : s = u
    · exact Or.inl (by rw [e]; exact List.mem_singleton.mpr rfl)
    · refine Or.inr ⟨rfl, fun x hx => ?_⟩
      rw [List.mem_singleton] at hx
      subst hx
      have := least s hs.1
      have : zn_k pr x ≠ zn_k pr s := fun q => e (zn_k_inj (lt _ hud) (lt _ hs.1.1) q).symm
      omega
theorem zn_Yp2 {Y : zx_Y} {p q : Nat} : zn_Yp (zn_Yp Y p) q = zn_Yp Y q := by
  unfold zn_Yp
  refine Prod.ext ?_ rfl
  funext a k
  by_cases h : a = 76 ∧ k = 5
  · rw [h.1, h.2]; show zx_u2 (zx_u2 Y.1 76 5 (some p)) 76 5 (some q) 76 5 = zx_u2 Y.1 76 5 (some q) 76 5; rw [zy_u2_self, zy_u2_self]
  · show zx_u2 (zx_u2 Y.1 76 5 (some p)) 76 5 (some q) a k = zx_u2 Y.1 76 5 (some q) a k
    by_cases h1 : a = 76
    · rw [zy_u2_nk (fun e => h ⟨h1, e⟩), zy_u2_nk (fun e => h ⟨h1, e⟩), zy_u2_nk (fun e => h ⟨h1, e⟩)]
    · rw [zy_u2_na h1, zy_u2_na h1, zy_u2_na h1]
section YJs
variable {l : Launch} {E : zx_E} {d : Nat} {I : Nat → Nat → Int32} {L : Nat → Nat → Int64} {Y : zx_Y} {Qo : Option Value → zx_M → Prop} {Q : Int32 → zx_M → Prop} {Qv : zx_M → Prop} {pr : Nat → Nat} {n k many P : Nat} {f : Nat → Nat}
theorem zj_safe (hY : zx_lay Y) {P S b r : Nat} {H : List (Nat × Nat)} {vs : List Int32} (hC : zc_C I P S b r H) (hPr : zc_P I) (hR : zc_R I vs) (hS : zc_S I) {y z : Int32}
    (hq : ∀ v I' vs' Y', Y' = Y ∨ (∃ p, Y' = zn_Yp Y p) → zx_lay Y' → zc_R I' vs' → zy_frp zw_nn I I' → Q v (I', L, Y')) :
    zx_Ci l E (d + 12) 144 [.ref 3, .int y, .int z] (I, L, Y) (fun v M1 => zx_lay M1.2.2 ∧ zx_Ci l E (d + 12) 247 [.ref 132, .int y, .int z] M1 (fun w M2 => w = v ∧ Q v M2)) := by
  have l0 : (0 : Int64).toInt = 0 := by decide
  have l1 : (1 : Int64).toInt = 1 := by decide
  have l5 : (5 : Int64).toInt = 5 := by decide
  have l8 : (8 : Int64).toInt = 8 := by decide
  have kq : ∀ v, Q v (zx_u2 I 132 0 0, L, Y) := fun v => hq _ _ vs Y (Or.inl rfl) hY (zc_R_cong hR (zy_fr_on zy_thr_fr (by decide))) (zy_frp_of zy_thr_fr (by decide))
  have no : ¬ (1 ≤ y.toInt ∧ y.toInt ≤ 5 ∧ 0 ≤ z.toInt ∧ z.toInt ≤ 8) → zx_Ci l E (d + 12) 247 [.ref 132, .int y, .int z] (I, L, Y) (fun w M2 => w = -1 ∧ Q (-1) M2) := fun h => by
    refine sg_247_0 hY _ _ (zy_167i hY (b := decide (1 ≤ y.toInt ∧ y.toInt ≤ 5)) (by rw [l1, l5]) ⟨hY, fun _ => ⟨_, rfl, rfl, kq _⟩, fun h2 => ?_⟩)
    rw [zy_b1, decide_eq_true_eq] at h2
    refine zy_167i hY (b := decide (0 ≤ z.toInt ∧ z.toInt ≤ 8)) (by rw [l0, l8]) ⟨hY, fun h3 => ?_, fun _ => ⟨_, rfl, rfl, kq _⟩⟩
    rw [zy_b1, decide_eq_true_eq] at h3
    exact absurd ⟨h2.1, h2.2, h3.1, h3.2⟩ h
  refine sg_144_0 hY _ _ (zy_c47 hY ⟨hY, fun h => ?_, fun h => ⟨_, rfl, hY, no (by rw [zy_b0, decide_eq_false_iff_not] at h; omega)⟩⟩)
  rw [zy_b1, decide_eq_true_eq] at h
  obtain ⟨hy1, hy5, hz0, hz8⟩ := h
  obtain ⟨n, hn, rfl⟩ := nI_of (x := y) (fun q => by rw [Int32.lt_iff_toInt_lt, zy_i0] at q; omega)
  obtain ⟨k, hk, rfl⟩ := nI_of (x := z) (fun q => by rw [Int32.lt_iff_toInt_lt, zy_i0] at q; omega)
  rw [nI_toInt hn] at hy1 hy5
  rw [nI_toInt hk] at hz0 hz8
  have n1 : 1 ≤ n := by omega
  have n5 : n ≤ 5 := by omega
  have k8 : k ≤ 8 := by omega
  obtain ⟨f, f1, f2, -, -⟩ := zc_nm hC
  obtain ⟨⟨hP, h7, h3⟩, -⟩ := id hC
  have hf : ∀ p, p < P → f p < 5764801 := fun p hp => (f2 p hp).2
  have hbl := zn_bs_len (f := f) (n := n) (k := k) P
  have hbt := zn_bs_lt (n := n) (k := k) hf
  have hpow : 6 ^ n ≤ 7776 := Nat.le_trans (Nat.pow_le_pow_right (by omega) n5) (by decide)
  refine zy_c48 hY hP h7 (fun p hp => f1 p (by omega)) n1 n5 k8 ⟨hY, ?_⟩
  obtain ⟨g7, g8, gB⟩ := zn_ak_B (I := I) (n := n) (ap := max 1 (n - k)) (by omega) hbt
  have frA := zn_ak_fr (I := I) (n := n) (ap := max 1 (n - k)) (bs := zn_bs f n k P) (by omega)
  generalize hI1 : zn_ak I n (max 1 (n - k)) (zn_bs f n k P) = I1 at *
  have hS1 : zc_S I1 := zc_S_cong hS (zy_fr_on frA (by decide))
  have ecs : zn_cs (zn_bs f n k P) n 0 = zn_ct (zn_sfp f P k) n (6 ^ n) := by
    rw [zn_cs_ok n 0 zn_ok_0, zn_ct_ls]
    refine congrArg List.length (List.filter_congr (fun e he => ?_))
    have hd := (zn_ls_mem n e).mp he
    rw [Nat.zero_mul, Nat.zero_add]
    exact zn_bs_sf (Nat.lt_of_lt_of_le (Nat.lt_of_lt_of_le (zn_d_lt hd) (zn_pow5 n5)) (by omega)) hd.2 k8 P hf
  have hct := zn_ct_le (sf := zn_sfp f P k) (n := n) (6 ^ n)
  have hiA : ∀ a j, 132 ≤ a → I1 a j = I a j := fun a j ha => frA a j (fun ⟨w, hw, e1, _⟩ => by
    simp only [List.mem_cons, List.not_mem_nil, or_false] at hw
    rcases hw with rfl | rfl <;> simp at e1 <;> omega)
  -- the reference, from a memory of the class
  have model : ∀ (K : Nat → Nat → Int32) (v : Int32) (Y' : zx_Y), zx_lay Y' → (∀ a j, 132 ≤ a → K a j = I a j) →
      (∀ w b, zn_ct (zn_sfp f P k) n (6 ^ n) = w → (w = 0 → b = []) → (w ≠ 0 → ∃ u v, zn_b1 (zn_sfp f P k) (fun _ => 0) n (6 ^ n) = some u ∧ zn_b1 (zn_sfp f P k) (zn_pr I) n (6 ^ n) = some v ∧ b = [nI u, nI v]) → nI w = v ∧ Q v (zy_ent (zx_u2 K 132 0 0) b, L, Y')) →
      zx_Ci l E (d + 12) 247 [.ref 132, .int (nI n), .int (nI k)] (K, L, Y') (fun w M2 => w = v ∧ Q v M2) := by
    intro K v Y' hY' hKhi c
    have hG : zn_G (zx_u2 K 132 0 0) n k P f (zn_pr I) := by
      refine ⟨⟨n1, n5, k8⟩, ⟨hP, ?_, fun p hp => ?_⟩, fun x a c => ?_⟩
      · rw [zy_u2_nk (by omega), hKhi _ _ (by omega)]; exact h3
      · rw [zy_u2_na (by omega), hKhi _ _ (by omega)]; exact f2 p hp
      · obtain ⟨-, u2, u3⟩ := zn_pr_ok hPr a c
        rw [zy_u2_na (by omega), hKhi _ _ (by omega)]; exact ⟨u3, u2⟩
    refine sg_247_0 hY' _ _ (zy_167i hY' (b := true) (by rw [l1, l5, nI_toInt hn, decide_eq_true (by omega)]) ⟨hY', fun h => absurd h (by decide), fun _ => ?_⟩)
    refine zy_167i hY' (b := true) (by rw [l0, l8, nI_toInt hk, decide_eq_true (by omega)]) ⟨hY', fun _ => ?_, fun h => absurd h (by decide)⟩
    rw [show d + 12 = d + 7 + 5 by omega]
    refine zy_247_42 (I := zx_u2 K 132 0 0) hY' hG (fun w b a1 a2 a3 => ?_)
    obtain ⟨u1, u2⟩ := c w b a1 a2 a3
    exact ⟨_, rfl, u1, u2⟩
  rw [show d + 11 = d + 10 + 1 by omega]
  refine sg_51_0 hY ?_
  rw [show d + 10 = d + (8 - n) + n + 2 by omega]
  have c56 := zy_c56 (l := l) (E := E) (L := L) hY gB g7 n5 (fun j hj => (hS1 j hj).2.1) n 0 (d + (8 - n))
  rw [Nat.sub_self] at c56
  refine c56 _ (Nat.le_refl _) zn_ok_0 (by decide) ⟨hY, ?_⟩
  refine zy_81 hY ⟨hY, ?_⟩
  rw [ecs, zy_le0 (by omega)]
  refine ⟨fun h0 => ⟨_, rfl, hY, _, rfl, hY, ?_⟩, fun h0 => ?_⟩
  · refine model (zy_tell I1 []) _ Y hY (fun a j ha => by rw [zy_tell_el (by omega)]; exact hiA a j ha) (fun w b a1 a2 a3 => ⟨by rw [a1], ?_⟩)
    rw [a2 (by omega)]
    have frT : zy_fr zw_R I1 (zy_tell I1 []) := zy_tell_fr (zy_fr_rf _ _) (by simp)
    have frE : zy_fr zw_R (zx_u2 (zy_tell I1 []) 132 0 0) (zy_ent (zx_u2 (zy_tell I1 []) 132 0 0) []) := zy_ent_fr (zy_fr_rf _ _) (by simp)
    refine hq _ _ [] Y (Or.inl rfl) hY (zc_R_tell (I := I1) (by simp) (fun a j ha => ?_)) (zy_frp_tr (zy_frp_tr (zy_frp_tr (zy_frp_of frA (by decide)) (zy_frp_of frT (by decide))) (zy_frp_of (zy_thr_fr (v := 0)) (by decide))) (zy_frp_of frE (by decide)))
    rw [zy_u2_na (by omega)]
  · -- the least of all, and the least by price
    obtain ⟨u, hu⟩ : ∃ u, zn_b1 (zn_sfp f P k) (fun _ => 0) n (6 ^ n) = some u := by
      cases hz : zn_b1 (zn_sfp f P k) (fun _ => 0) n (6 ^ n) with
      | none => exact absurd ((zn_ct_b1 _).mpr hz) h0
      | some u => exact ⟨u, rfl⟩
    obtain ⟨v, hv⟩ : ∃ v, zn_b1 (zn_sfp f P k) (zn_pr I) n (6 ^ n) = some v := by
      cases hz : zn_b1 (zn_sfp f P k) (zn_pr I) n (6 ^ n) with
      | none => exact absurd ((zn_ct_b1 _).mpr hz) h0
      | some u => exact ⟨u, rfl⟩
    have elm : zn_lm (n - max 1 (n - k)) 1 n = 1 := by unfold zn_lm; rw [if_neg (by omega)]
    have pk : ∀ (pr : Nat → Nat) u, zn_b1 (zn_sfp f P k) pr n (6 ^ n) = some u → zn_pk pr (n - max 1 (n - k)) 1 (zn_bs f n k P) n 0 = [u] := fun pr u h => by
      have top := zn_top_iff (zn_pk_ok (pr := pr) (q := n - max 1 (n - k)) (many := 1) (bs := zn_bs f n k P) (by omega) n 0 n5 zn_ok_0) (fun e => zn_same (pr := pr) (q := n - max 1 (n - k)) n5 k8 hf e)
      rw [elm] at top
      exact zn_top_uniq top (zn_one n5 h)
    rw [show d + (8 - n) + n + 2 = d + (5 - n) + n + 5 by omega]
    have frT : zy_fr zw_R I1 (zy_tell I1 []) := zy_tell_fr (zy_fr_rf _ _) (by simp)
    have bAt : ∀ (K : Nat → Nat → Int32), (∀ j, K 77 j = I1 77 j) → K 76 6 = I1 76 6 → zn_B K (zn_bs f n k P) := fun K q1 q2 => by
      obtain ⟨b1, b2, b3⟩ := gB
      exact ⟨b1, by rw [q2]; exact b2, fun j hj => by rw [q1]; exact b3 j hj⟩
    have hE1 := zn_E_of (Y := Y) (many := 1) (pr := fun _ => 0) (J := zy_tell I1 []) (by rw [zy_tell_el (by omega)]; exact g7) (by rw [zy_tell_el (by omega)]; exact g8) n1 n5 (by omega) (by omega) (by omega) (by omega) (bAt _ (fun j => zy_tell_el (by omega)) (zy_tell_el (by omega))) (Or.inr rfl) (fun x a c => ⟨by rw [zy_tell_el (by omega)]; exact (hS1 (x - 1) (by omega)).2.2, by omega⟩) (zc_S_cong hS1 (zy_fr_on frT (by decide)))
    have hY1 : zx_lay (zn_Yp Y 78) := zn_lay5 hY 78
    have hY2 : zx_lay (zn_Yp (zn_Yp Y 78) 11) := zn_lay5 hY1 11
    refine zy_c52 hY hE1 (fun J1 hJ1 hP1 => ⟨hY1, ?_⟩)
    rw [pk _ u hu] at hP1
    replace hJ1 : zn_fc (zy_tell I1 []) J1 := hJ1
    have eu : J1 86 0 = nI u := (hP1.2 0 (by simp)).2
    have t1 : J1 = zy_tell J1 [] := zy_tell_of (by rw [hJ1 6 1 (by omega) (by omega)]; unfold zy_tell; rw [if_pos ⟨rfl, rfl⟩]) (fun k hk => by simp at hk)
    dsimp only
    rw [eu]
    rw [t1]
    refine zy_82 hY1 (by simp) ⟨hY1, ?_⟩
    have frT1 : zy_fr zw_R J1 (zy_tell J1 ([] ++ [nI u])) := zy_tell_fr (zy_fr_rf _ _) (by simp)
    generalize hK1 : zy_tell J1 ([] ++ [nI u]) = K1 at *
    have k1 : ∀ a j, ¬ (a = 6 ∧ j = 1) ∧ a ≠ 7 → ¬ (81 ≤ a ∧ a ≤ 116) → ¬ (a = 76 ∧ j = 9) → K1 a j = I1 a j := fun a j ha hb hc => by
      rw [← hK1, zy_tell_el ha, hJ1 a j hb hc, zy_tell_el ha]
    have prA : ∀ x, 1 ≤ x → x ≤ 6 → K1 11 (x - 1) = nI (zn_pr I x) ∧ zn_pr I x ≤ 9 := fun x a c => by
      obtain ⟨u1, u2, -⟩ := zn_pr_ok hPr a c
      rw [k1 11 _ (by omega) (by omega) (by omega), zy_fr_row frA 11 6 (by decide) (by omega)]; exact ⟨u1, u2⟩
    have hE2 := zn_E_of (Y := zn_Yp Y 78) (many := 1) (pr := zn_pr I) (J := K1) (by rw [k1 _ _ (by omega) (by omega) (by omega)]; exact g7) (by rw [k1 _ _ (by omega) (by omega) (by omega)]; exact g8) n1 n5 (by omega) (by omega) (by omega) (by omega) (bAt _ (fun j => k1 _ _ (by omega) (by omega) (by omega)) (k1 _ _ (by omega) (by omega) (by omega))) (Or.inl rfl) prA (fun j hj => by
      rw [k1 _ _ (by omega) (by omega) (by omega), k1 _ _ (by omega) (by omega) (by omega), k1 _ _ (by omega) (by omega) (by omega)]; exact hS1 j hj)
    refine zy_c52 hY1 hE2 (fun J2 hJ2 hP2 => ⟨hY2, ?_⟩)
    rw [pk _ v hv] at hP2
    replace hJ2 : zn_fc K1 J2 := hJ2
    have ev : J2 86 0 = nI v := (hP2.2 0 (by simp)).2
    have t2 : J2 = zy_tell J2 [nI u] := zy_tell_of (by rw [hJ2 6 1 (by omega) (by omega), ← hK1]; unfold zy_tell; rw [if_pos ⟨rfl, rfl⟩]; rfl) (fun k hk => by
      rw [hJ2 7 k (by omega) (by omega), ← hK1]; unfold zy_tell; rw [if_neg (by omega), if_pos ⟨rfl, hk⟩]; rfl)
    dsimp only
    rw [ev]
    rw [t2]
    refine zy_82 hY2 (by simp) ⟨hY2, _, rfl, hY2, _, rfl, hY2, ?_⟩
    have hws : ([nI u] ++ [nI v]).length ≤ 12 := by simp
    have frT2 : zy_fr zw_R J2 (zy_tell J2 ([nI u] ++ [nI v])) := zy_tell_fr (zy_fr_rf _ _) hws
    have frJ : zy_frp zw_nn I J2 := zy_frp_tr (zy_frp_tr (zy_frp_tr (zy_frp_tr (zy_frp_of frA (by decide)) (zy_frp_of frT (by decide))) (zy_frp_c hJ1)) (zy_frp_of frT1 (by decide))) (zy_frp_c hJ2)
    refine model (zy_tell J2 ([nI u] ++ [nI v])) _ _ hY2 (fun a j ha => by rw [zy_tell_el (by omega), hJ2 _ _ (by omega) (by omega), k1 _ _ (by omega) (by omega) (by omega)]; exact hiA a j ha) (fun w b a1 a2 a3 => ⟨by rw [a1], ?_⟩)
    obtain ⟨u', v', c1, c2, c3⟩ := a3 (by omega)
    rw [hu] at c1
    rw [hv] at c2
    cases c1
    cases c2
    rw [c3]
    have frE : zy_fr zw_R (zx_u2 (zy_tell J2 [nI u, nI v]) 132 0 0) (zy_ent (zx_u2 (zy_tell J2 [nI u, nI v]) 132 0 0) [nI u, nI v]) := zy_ent_fr (zy_fr_rf _ _) hws
    refine hq _ _ [nI u, nI v] _ (Or.inr ⟨11, zn_Yp2⟩) hY2 (zc_R_tell (I := J2) hws (fun a j ha => ?_)) (zy_frp_tr (zy_frp_tr (zy_frp_tr frJ (zy_frp_of frT2 (by decide))) (zy_frp_of (zy_thr_fr (v := 0)) (by decide))) (zy_frp_of frE (by decide)))
    rw [zy_u2_na (by omega)]; rfl
end YJs
