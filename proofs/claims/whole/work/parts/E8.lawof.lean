/-! ===== the law's cases of and row, and hears ===== -/
section ZLO
variable {l : Launch} {E : zx_E} {k N i : Nat} {f : Nat → Int32} {Qo : Option Value → zx_M → Prop} {I : Nat → Nat → Int32} {L : Nat → Nat → Int64} {Y : zx_Y}
theorem zl_us {α : Type} (F : Nat → Nat → α) (a k : Nat) (v : α) : zx_u2 F a k v a k = v := if_pos ⟨rfl, rfl⟩
theorem zl_cmp (x : Int64) : lg_cmp x x = 0 := by simp [lg_cmp]
theorem zl_th_S (h1 : 160 ≤ Y.2.2.2.1) (hS : zl_S N f (I, L, Y)) : zl_S N f (zx_th (I, L, Y)) := by
  have e : zx_ln (zx_th (I, L, Y)) 0 = zx_ln (I, L, Y) 0 := by
    show zx_u1 Y.2.2.1 Y.2.2.2.1 0 0 = Y.2.2.1 0
    unfold zx_u1
    rw [if_neg (by omega)]
  have e2 : (zx_th (I, L, Y)).1 0 = I 0 := zl_th_I (by omega)
  exact ⟨by rw [e]; exact hS.1, by rw [e]; exact hS.2.1, fun j hj => by rw [e2]; exact hS.2.2 j hj⟩
theorem zi_th {R : List (Nat × Nat × Nat)} (h1 : 160 ≤ Y.2.2.2.1) (hd : (R.all fun r => Nat.blt r.1 160) = true) : ∀ a x, zy_in R a x → (zx_th (I, L, Y)).1 a x = I a x := by
  rintro a x ⟨r, hm, e, -⟩
  have : r.1 < 160 := Nat.le_of_ble_eq_true (List.all_eq_true.mp hd r hm)
  rw [zl_th_I (by omega)]
theorem zi_V_pl (h : zi_V k I L Y) (x : Int64) : zi_V (k + 1) (zx_u2 I 132 0 0) (zx_u2 L 159 0 x) Y := by
  obtain ⟨hY, ⟨n, hT⟩, ⟨P, S, b, r, H, hC, hK⟩, hP, hN, ⟨vs, hR⟩, ⟨m, w, hL⟩, hS, fo, B, h1, hB, hn⟩ := h
  exact zi_mk hY (zc_T_cong hT (zy_fr_on (zi_f0 I 0) rfl)) (zc_C_cong hC (zy_fr_on (zi_f0 I 0) rfl)) (zc_K_cong hK (zy_fr_on (zi_f0 I 0) rfl)) (zc_P_cong hP (zy_fr_on (zi_f0 I 0) rfl)) (zc_N_cong hN (zy_fr_on (zi_f0 I 0) rfl)) (zc_R_cong hR (zy_fr_on (zi_f0 I 0) rfl)) (zc_L_cong hL (zy_fr_on (zi_f0 I 0) rfl)) (zc_S_cong hS (zy_fr_on (zi_f0 I 0) rfl))
    (zs_S1_same (zi_s1 h1 (zi_f0 I 0) rfl) (fun _ _ _ => rfl) (fun a y ha => if_neg (fun q => by omega))) (by omega) (by omega)
theorem zi_V_th (h : zi_V k I L Y) : zi_V (k + 1) (zx_u2 (zx_u2 (zx_th (I, L, Y)).1 132 0 0) 132 0 1) (zx_th (I, L, Y)).2.1 (zx_th (I, L, Y)).2.2 := by
  obtain ⟨hY, ⟨n, hT⟩, ⟨P, S, b, r, H, hC, hK⟩, hP, hN, ⟨vs, hR⟩, ⟨m, w, hL⟩, hS, fo, B, h1, hB, hn⟩ := h
  have h160 := hY.1
  have s1 : zs_S1 (zx_th (I, L, Y)).1 (zx_th (I, L, Y)).2.1 (zx_th (I, L, Y)).2.2 fo (B + 6) k := zs_S1_cong (z := 6) h1 (fun a x ha => by rw [zl_th_I (by omega)]) (fun a x ha => by rw [zl_th_L (by omega)]) (fun x _ _ => by rw [zl_th_Y (by omega)])
    (fun j hj => by
      constructor
      · show zx_u1 Y.2.1 Y.2.2.2.1 99 j = Y.2.1 j
        unfold zx_u1
        rw [if_neg (by omega)]
      · show zx_u1 Y.2.2.1 Y.2.2.2.1 0 j = Y.2.2.1 j
        unfold zx_u1
        rw [if_neg (by omega)]) (Nat.le_succ _) rfl
  have hY1 := zl_th_lay (I := I) (L := L) hY
  have n1 : (zx_th (I, L, Y)).2.2.2.2.2.1 = Y.2.2.2.1 + 1 := rfl
  have t1 := zc_T_cong (I' := (zx_th (I, L, Y)).1) hT (zi_th h160 rfl)
  have t2 := zc_C_cong (I' := (zx_th (I, L, Y)).1) hC (zi_th h160 rfl)
  have t3 := zc_K_cong (I' := (zx_th (I, L, Y)).1) hK (zi_th h160 rfl)
  have t4 := zc_P_cong (I' := (zx_th (I, L, Y)).1) hP (zi_th h160 rfl)
  have t5 := zc_N_cong (I' := (zx_th (I, L, Y)).1) hN (zi_th h160 rfl)
  have t6 := zc_R_cong (I' := (zx_th (I, L, Y)).1) hR (zi_th h160 rfl)
  have t7 := zc_L_cong (I' := (zx_th (I, L, Y)).1) hL (zi_th h160 rfl)
  have t8 := zc_S_cong (I' := (zx_th (I, L, Y)).1) hS (zi_th h160 rfl)
  clear hT hC hK hP hN hR hL hS h1
  generalize zx_th (I, L, Y) = M at *
  have hf : zy_fr [(132, 0, 1)] M.1 (zx_u2 (zx_u2 M.1 132 0 0) 132 0 1) := zy_fr_tr (zi_f0 M.1 0) (zi_f0 _ 1)
  exact zi_mk hY1 (zc_T_cong t1 (zy_fr_on hf rfl)) (zc_C_cong t2 (zy_fr_on hf rfl)) (zc_K_cong t3 (zy_fr_on hf rfl)) (zc_P_cong t4 (zy_fr_on hf rfl)) (zc_N_cong t5 (zy_fr_on hf rfl)) (zc_R_cong t6 (zy_fr_on hf rfl)) (zc_L_cong t7 (zy_fr_on hf rfl)) (zc_S_cong t8 (zy_fr_on hf rfl)) (zi_s1 s1 hf rfl) (by omega) (by omega)
theorem zl_of_rest {M1 M2 : zx_M} {kk v : Int32} (hN : N ≤ 2560) (hi : i + 5 ≤ N) (hY1 : zx_lay M1.2.2) (hS1 : zl_S N f M1) (c2 : zx_Ci l E 20 187 [.ref 132, .int (f (i + 1)), .int (f (i + 2))] M1 (fun w M3 => M3 = M2 ∧ (kk = 0 → w = v))) (hV2 : zi_V (k + 1) M2.1 M2.2.1 M2.2.2) (ht : M2.1 132 0 = kk) (hL : kk = 0 → M2.2.1 159 0 = v.toInt64)
    (hdef : ∀ M1 M2 : zx_M, zi_V (k + 1) M2.1 M2.2.1 M2.2.2 → zx_n M1 ≤ zx_n M2 → zx_sl M1 ≤ zx_sl M2 → Qo (some (.int 1)) M1)
    (hq : ∀ M2 : zx_M, zi_V (k + 1) M2.1 M2.2.1 M2.2.2 → zl_S N f M2 → zx_To l E 21 272 1359 [some (.ref 0), some (.ref 3), some (.ref 132), some (.ref 159), some (.int (nI i)), none, none] [] M2 Qo) : zx_To l E 21 272 341 [some (.ref 0), some (.ref 3), some (.ref 132), some (.ref 159), some (.int (nI i)), none, none] [.int kk] M1 Qo := by
  have hY2 := hV2.1
  have b1 := zl_vin hN hi hS1 1 1 rfl (by decide)
  have b2 := zl_vin hN hi hS1 2 2 rfl (by decide)
  refine zx_go zk_L4 [356] 60 341 (And.intro (Or.inr (by decide)) (And.intro b1.1 (And.intro (Or.inr (by decide)) (And.intro b2.1 (?_)))))
  show zx_To l E 21 272 356 [some (.ref 0), some (.ref 3), some (.ref 132), some (.ref 159), some (.int (nI i)), some (.int kk), none] [.int (M1.1 0 (nI i + 2).toNatClampNeg), .int (M1.1 0 (nI i + 1).toNatClampNeg), .ref 132] M1 Qo
  rw [b1.2, b2.2]
  refine zl_virt (d := 20) (M := M1) (as := [.int (f (i + 1)), .int (f (i + 2))]) (st := []) (i := 132) (by omega) (List.all_eq_true.mp zk_L4 _ (List.mem_of_getElem? (i := 25) rfl)) (zx_lis (I := M1.1) (L := M1.2.1) hY1 132 12 rfl rfl) (by decide : 2 = zx_np 187) (Nat.le_of_ble_eq_true rfl) (by decide : 3 ≤ zx_mL 187) hS1 c2 ?_ ?_
  · rintro w1 M3 ⟨e, -⟩
    rw [e]
    exact hdef M2 M2 hV2 (Nat.le_refl _) (Nat.le_refl _)
  rintro w1 M3 ⟨e, hw⟩ hS2
  rw [e] at hS2 ⊢
  refine zx_go zk_L4 [362] 60 359 ?_
  show zx_To l E 21 272 362 [some (.ref 0), some (.ref 3), some (.ref 132), some (.ref 159), some (.int (nI i)), some (.int kk), some (.int w1)] [.ref 132] M2 Qo
  refine zl_virt (d := 20) (M := M2) (as := []) (st := []) (i := 132) (by omega) (List.all_eq_true.mp zk_L4 _ (List.mem_of_getElem? (i := 28) rfl)) (zx_lis (I := M2.1) (L := M2.2.1) hY2 132 12 rfl rfl) (by decide : 0 = zx_np 165) (Nat.le_of_ble_eq_true rfl) (by decide : 1 ≤ zx_mL 165) hS2 (zi_165 (I := M2.1) (L := M2.2.1) (Y := M2.2.2) hY2 ht) ?_ ?_
  · rintro w3 M4 ⟨-, e4⟩
    rw [e4]
    exact hdef M2 M2 hV2 (Nat.le_refl _) (Nat.le_refl _)
  rintro w3 M4 ⟨e3, e4⟩ hS3
  rw [e4] at hS3 ⊢
  rw [e3]
  have fin : zx_To l E 21 272 1359 [some (.ref 0), some (.ref 3), some (.ref 132), some (.ref 159), some (.int (nI i)), some (.int kk), some (.int w1)] [] M2 Qo := zx_wk (ls' := [some (.ref 0), some (.ref 3), some (.ref 132), some (.ref 159), some (.int (nI i)), none, none]) (And.intro rfl (And.intro rfl (And.intro rfl (And.intro rfl (And.intro rfl trivial))))) (hq M2 hV2 hS3)
  refine zx_go zk_L4 [1359] 40 365 (And.intro (fun _ => And.intro (fun c => fin) (fun c => ?_)) (fun c => absurd rfl c))
  have c : kk = 0 := c
  refine And.intro (zx_lis (I := M2.1) (L := M2.2.1) hY2 159 21 rfl rfl) (And.intro (zx_lin (I := M2.1) (L := M2.2.1) hY2 159 1 rfl rfl (show vp_in 0 1 by unfold vp_in; decide)) (And.intro (fun _ => fin) (fun c4 => absurd ?_ c4)))
  show lg_cmp (M2.2.1 159 0) w1.toInt64 = 0
  rw [hL c, hw c]
  exact zl_cmp _
theorem zl_row_rest {M1 M2 : zx_M} {kk v : Int32} (hN : N ≤ 2560) (hi : i + 5 ≤ N) (hY1 : zx_lay M1.2.2) (hS1 : zl_S N f M1) (c2 : zx_Ci l E 20 264 [.ref 132, .int (f (i + 1))] M1 (fun w M3 => M3 = M2 ∧ (kk = 0 → w = v))) (hV2 : zi_V (k + 1) M2.1 M2.2.1 M2.2.2) (ht : M2.1 132 0 = kk) (hL : kk = 0 → M2.2.1 159 0 = v.toInt64)
    (hdef : ∀ M1 M2 : zx_M, zi_V (k + 1) M2.1 M2.2.1 M2.2.2 → zx_n M1 ≤ zx_n M2 → zx_sl M1 ≤ zx_sl M2 → Qo (some (.int 1)) M1)
    (hq : ∀ M2 : zx_M, zi_V (k + 1) M2.1 M2.2.1 M2.2.2 → zl_S N f M2 → zx_To l E 21 272 1359 [some (.ref 0), some (.ref 3), some (.ref 132), some (.ref 159), some (.int (nI i)), none, none] [] M2 Qo) : zx_To l E 21 272 1314 [some (.ref 0), some (.ref 3), some (.ref 132), some (.ref 159), some (.int (nI i)), none, none] [.int kk] M1 Qo := by
  have hY2 := hV2.1
  have b1 := zl_vin hN hi hS1 1 1 rfl (by decide)
  refine zx_go zk_L36 [1323] 60 1314 (And.intro (Or.inr (by decide)) (And.intro b1.1 (?_)))
  show zx_To l E 21 272 1323 [some (.ref 0), some (.ref 3), some (.ref 132), some (.ref 159), some (.int (nI i)), some (.int kk), none] [.int (M1.1 0 (nI i + 1).toNatClampNeg), .ref 132] M1 Qo
  rw [b1.2]
  refine zl_virt (d := 20) (M := M1) (as := [.int (f (i + 1))]) (st := []) (i := 132) (by omega) (List.all_eq_true.mp zk_L36 _ (List.mem_of_getElem? (i := 15) rfl)) (zx_lis (I := M1.1) (L := M1.2.1) hY1 132 12 rfl rfl) (by decide : 1 = zx_np 264) (Nat.le_of_ble_eq_true rfl) (by decide : 2 ≤ zx_mL 264) hS1 c2 ?_ ?_
  · rintro w1 M3 ⟨e, -⟩
    rw [e]
    exact hdef M2 M2 hV2 (Nat.le_refl _) (Nat.le_refl _)
  rintro w1 M3 ⟨e, hw⟩ hS2
  rw [e] at hS2 ⊢
  refine zx_go zk_L36 [1329] 60 1326 ?_
  show zx_To l E 21 272 1329 [some (.ref 0), some (.ref 3), some (.ref 132), some (.ref 159), some (.int (nI i)), some (.int kk), some (.int w1)] [.ref 132] M2 Qo
  refine zl_virt (d := 20) (M := M2) (as := []) (st := []) (i := 132) (by omega) (List.all_eq_true.mp zk_L36 _ (List.mem_of_getElem? (i := 18) rfl)) (zx_lis (I := M2.1) (L := M2.2.1) hY2 132 12 rfl rfl) (by decide : 0 = zx_np 165) (Nat.le_of_ble_eq_true rfl) (by decide : 1 ≤ zx_mL 165) hS2 (zi_165 (I := M2.1) (L := M2.2.1) (Y := M2.2.2) hY2 ht) ?_ ?_
  · rintro w3 M4 ⟨-, e4⟩
    rw [e4]
    exact hdef M2 M2 hV2 (Nat.le_refl _) (Nat.le_refl _)
  rintro w3 M4 ⟨e3, e4⟩ hS3
  rw [e4] at hS3 ⊢
  rw [e3]
  have fin : zx_To l E 21 272 1359 [some (.ref 0), some (.ref 3), some (.ref 132), some (.ref 159), some (.int (nI i)), some (.int kk), some (.int w1)] [] M2 Qo := zx_wk (ls' := [some (.ref 0), some (.ref 3), some (.ref 132), some (.ref 159), some (.int (nI i)), none, none]) (And.intro rfl (And.intro rfl (And.intro rfl (And.intro rfl (And.intro rfl trivial))))) (hq M2 hV2 hS3)
  refine zx_go zk_L36 [1359] 40 1332 (And.intro (fun _ => And.intro (fun c => fin) (fun c => ?_)) (fun c => absurd rfl c))
  have c : kk = 0 := c
  refine And.intro (zx_lis (I := M2.1) (L := M2.2.1) hY2 159 21 rfl rfl) (And.intro (zx_lin (I := M2.1) (L := M2.2.1) hY2 159 1 rfl rfl (show vp_in 0 1 by unfold vp_in; decide)) (And.intro (fun _ => fin) (fun c4 => absurd ?_ c4)))
  show lg_cmp (M2.2.1 159 0) w1.toInt64 = 0
  rw [hL c, hw c]
  exact zl_cmp _
theorem zl_c4 (hl : l.stackTraces = false) (hV : zi_V k I L Y) (hN : N ≤ 2560) (hi : i + 5 ≤ N) (hS : zl_S N f (I, L, Y))
    (hdef : ∀ M1 M2 : zx_M, zi_V (k + 1) M2.1 M2.2.1 M2.2.2 → zx_n M1 ≤ zx_n M2 → zx_sl M1 ≤ zx_sl M2 → Qo (some (.int 1)) M1)
    (hq : ∀ M2 : zx_M, zi_V (k + 1) M2.1 M2.2.1 M2.2.2 → zl_S N f M2 → zx_To l E 21 272 1359 [some (.ref 0), some (.ref 3), some (.ref 132), some (.ref 159), some (.int (nI i)), none, none] [] M2 Qo) : zx_To l E 21 272 324 [some (.ref 0), some (.ref 3), some (.ref 132), some (.ref 159), some (.int (nI i)), none, none] [] (I, L, Y) Qo := by
  obtain ⟨hY, -, ⟨P, S, b, r, H, hC, -⟩, -⟩ := id hV
  have a1 := zl_vin hN hi hS 1 1 rfl (by decide)
  have a2 := zl_vin hN hi hS 2 2 rfl (by decide)
  refine zx_go zk_L4 [338] 60 324 (And.intro (Or.inr (by decide)) (And.intro a1.1 (And.intro (Or.inr (by decide)) (And.intro a2.1 ?_))))
  show zx_To l E 21 272 338 [some (.ref 0), some (.ref 3), some (.ref 132), some (.ref 159), some (.int (nI i)), none, none] [.ref 159, .int ((I, L, Y).1 0 (nI i + 2).toNatClampNeg), .int ((I, L, Y).1 0 (nI i + 1).toNatClampNeg), .ref 3] (I, L, Y) Qo
  rw [a1.2, a2.2]
  have hdec := (zx_chk_dec (List.all_eq_true.mp zk_L4 _ (List.mem_of_getElem? (i := 12) rfl))).1
  by_cases ok : zy_one P (f (i + 1)) = true ∧ 0 ≤ (f (i + 2)).toInt ∧ (f (i + 2)).toInt ≤ 3
  · obtain ⟨v, c1, c2⟩ := zi_of (l := l) (E := E) (d := 18) (L := L) hY hC ok.1 ok.2
    refine zl_of_ok (d := 19) (st := []) hdec (by decide) hY c1 ?_
    exact zl_of_rest (k := k) (M1 := (I, zx_u2 L 159 0 v.toInt64, Y)) (M2 := (zx_u2 I 132 0 0, zx_u2 L 159 0 v.toInt64, Y)) (kk := 0) (v := v) hN hi hY hS (zx_Ci.mono (c2 _) (fun w M3 q => ⟨q.2, fun _ => q.1⟩)) (zi_V_pl hV _) (zl_us I 132 0 0) (fun _ => zl_us L 159 0 _) hdef hq
  · have hx0 : (if zy_one P (f (i + 1)) then (1 : Int32) else 0) = 0 ∨ f (i + 2) < 0 ∨ ¬ f (i + 2) ≤ 3 := by
      by_cases h1 : zy_one P (f (i + 1)) = true
      · refine Or.inr ?_
        have e0 := zy_i0
        have e3 : (3 : Int32).toInt = 3 := by decide
        rw [Int32.lt_iff_toInt_lt, Int32.le_iff_toInt_le, e0, e3]
        by_cases h2 : (f (i + 2)).toInt < 0
        · exact Or.inl h2
        · exact Or.inr (fun h3 => ok ⟨h1, by omega, h3⟩)
      · exact Or.inl (by rw [if_neg h1])
    refine zl_of_thr (d := 18) (st := []) hl hdec (by decide) hY (by decide) (zy_1 hY hC.1.1 hC.1.2.1 ⟨rfl, rfl⟩) hx0 ?_
    have hC1 := zc_C_cong (I' := (zx_th (I, L, Y)).1) hC (zi_th hY.1 rfl)
    exact zl_of_rest (k := k) (M1 := zx_th (I, L, Y)) (M2 := (zx_u2 (zx_u2 (zx_th (I, L, Y)).1 132 0 0) 132 0 1, (zx_th (I, L, Y)).2.1, (zx_th (I, L, Y)).2.2)) (kk := 1) (v := 0) hN hi (zl_th_lay hY) (zl_th_S hY.1 hS) (zx_Ci.mono (zi_of_x (d := 18) (I := (zx_th (I, L, Y)).1) (L := (zx_th (I, L, Y)).2.1) (Y := (zx_th (I, L, Y)).2.2) (zl_th_lay hY) hC1 ok) (fun w M3 q => ⟨q, fun h => absurd h (by decide)⟩)) (zi_V_th hV) (zl_us (zx_u2 (zx_th (I, L, Y)).1 132 0 0) 132 0 1) (fun h => absurd h (by decide)) hdef hq
theorem zl_c36 (hl : l.stackTraces = false) (hV : zi_V k I L Y) (hN : N ≤ 2560) (hi : i + 5 ≤ N) (hS : zl_S N f (I, L, Y))
    (hdef : ∀ M1 M2 : zx_M, zi_V (k + 1) M2.1 M2.2.1 M2.2.2 → zx_n M1 ≤ zx_n M2 → zx_sl M1 ≤ zx_sl M2 → Qo (some (.int 1)) M1)
    (hq : ∀ M2 : zx_M, zi_V (k + 1) M2.1 M2.2.1 M2.2.2 → zl_S N f M2 → zx_To l E 21 272 1359 [some (.ref 0), some (.ref 3), some (.ref 132), some (.ref 159), some (.int (nI i)), none, none] [] M2 Qo) : zx_To l E 21 272 1303 [some (.ref 0), some (.ref 3), some (.ref 132), some (.ref 159), some (.int (nI i)), none, none] [] (I, L, Y) Qo := by
  obtain ⟨hY, -, -, -, -, ⟨vs, hR⟩, -⟩ := id hV
  have a1 := zl_vin hN hi hS 1 1 rfl (by decide)
  refine zx_go zk_L36 [1311] 60 1303 (And.intro (Or.inr (by decide)) (And.intro a1.1 ?_))
  show zx_To l E 21 272 1311 [some (.ref 0), some (.ref 3), some (.ref 132), some (.ref 159), some (.int (nI i)), none, none] [.ref 159, .int ((I, L, Y).1 0 (nI i + 1).toNatClampNeg), .ref 3] (I, L, Y) Qo
  rw [a1.2]
  have hdec := (zx_chk_dec (List.all_eq_true.mp zk_L36 _ (List.mem_of_getElem? (i := 7) rfl))).1
  have h12 := hR.1
  by_cases ok : 0 ≤ (f (i + 1)).toInt ∧ (f (i + 1)).toInt < (vs.length : Int)
  · obtain ⟨p, hp31, hp⟩ := nI_of (x := f (i + 1)) (fun h => by rw [Int32.lt_iff_toInt_lt] at h; have := zy_i0; omega)
    rw [hp, nI_toInt hp31] at ok
    obtain ⟨c1, c2⟩ := zi_row (l := l) (E := E) (d := 18) (L := L) hY hR (p := p) (by omega)
    obtain ⟨-, c3⟩ := zi_row (l := l) (E := E) (d := 19) (L := L) hY hR (p := p) (by omega)
    rw [hp]
    refine zl_row_ok (d := 19) (st := []) hdec (by decide) hY c1 ?_
    exact zl_row_rest (k := k) (M1 := (I, zx_u2 L 159 0 (vs.getD p 0).toInt64, Y)) (M2 := (zx_u2 I 132 0 0, zx_u2 L 159 0 (vs.getD p 0).toInt64, Y)) (kk := 0) (v := vs.getD p 0) hN hi hY hS (by rw [hp]; exact zx_Ci.mono (c3 _) (fun w M3 q => ⟨q.2, fun _ => q.1⟩)) (zi_V_pl hV _) (zl_us I 132 0 0) (fun _ => zl_us L 159 0 _) hdef hq
  · have hx0 : f (i + 1) < 0 ∨ ¬ f (i + 1) < I 6 1 := by
      rw [hR.2.1, Int32.lt_iff_toInt_lt, Int32.lt_iff_toInt_lt, zy_i0, nI_toInt (by omega)]
      omega
    refine zl_row_thr (d := 19) (st := []) hl hdec (by decide) hY (by decide) hx0 ?_
    have hR1 := zc_R_cong (I' := (zx_th (I, L, Y)).1) hR (zi_th hY.1 rfl)
    exact zl_row_rest (k := k) (M1 := zx_th (I, L, Y)) (M2 := (zx_u2 (zx_u2 (zx_th (I, L, Y)).1 132 0 0) 132 0 1, (zx_th (I, L, Y)).2.1, (zx_th (I, L, Y)).2.2)) (kk := 1) (v := 0) hN hi (zl_th_lay hY) (zl_th_S hY.1 hS) (zx_Ci.mono (zi_row_x (d := 19) (I := (zx_th (I, L, Y)).1) (L := (zx_th (I, L, Y)).2.1) (Y := (zx_th (I, L, Y)).2.2) (zl_th_lay hY) hR1 ok) (fun w M3 q => ⟨q, fun h => absurd h (by decide)⟩)) (zi_V_th hV) (zl_us (zx_u2 (zx_th (I, L, Y)).1 132 0 0) 132 0 1) (fun h => absurd h (by decide)) hdef hq
theorem zl_c28 {d : Nat} {M : zx_M} {Q : Int32 → zx_M → Prop} {b : Bool} (hb : b = true ↔ ¬ f (i + 2) = 0) (hY : zx_lay M.2.2) (hN : N ≤ 2560) (hi : i + 5 ≤ N) (hS : zl_S N f M)
    (hz : zx_Ci l E d 146 [.ref 3, .int (f (i + 1)), .int (if b then 1 else 0)] M (fun v M1 => zx_lay M1.2.2 ∧ zx_Ci l E d 252 [.ref 132, .int (f (i + 1)), .int (if b then 1 else 0)] M1 (fun w M2 => w = v ∧ Q v M2)))
    (hdef : ∀ v M1 M2, Q v M2 → zx_n M1 ≤ zx_n M2 → zx_sl M1 ≤ zx_sl M2 → Qo (some (.int 1)) M1)
    (hq : ∀ v M2, Q v M2 → zl_S N f M2 → zx_To l E (d + 1) 272 1359 [some (.ref 0), some (.ref 3), some (.ref 132), some (.ref 159), some (.int (nI i)), none, none] [] M2 Qo) : zx_To l E (d + 1) 272 1111 [some (.ref 0), some (.ref 3), some (.ref 132), some (.ref 159), some (.int (nI i)), none, none] [] M Qo := by
  have a1 := zl_vin hN hi hS 1 1 rfl (by decide)
  have a2 := zl_vin hN hi hS 2 2 rfl (by decide)
  have keya : zx_To l E (d + 1) 272 1132 [some (.ref 0), some (.ref 3), some (.ref 132), some (.ref 159), some (.int (nI i)), none, none] [.int (if b then 1 else 0), .int (f (i + 1)), .ref 3] M Qo := by
    refine zl_virt (M := M) (as := [.int (f (i + 1)), .int (if b then 1 else 0)]) (st := []) (i := 3) (by omega) (List.all_eq_true.mp zk_L28 _ (List.mem_of_getElem? (i := 15) rfl)) (zx_lis (I := M.1) (L := M.2.1) hY 3 11 rfl rfl) (by decide : 2 = zx_np 146) (Nat.le_of_ble_eq_true rfl) (by decide : 3 ≤ zx_mL 146) hS hz ?_ ?_
    · rintro v M1 ⟨-, g⟩
      obtain ⟨r, M2, ⟨w, -, -, hQ⟩, -, hZ⟩ := g
      exact hdef v M1 M2 hQ hZ.1 hZ.2.1
    rintro v M1 ⟨hY1, g⟩ hS1
    have b1 := zl_vin hN hi hS1 1 1 rfl (by decide)
    have b2 := zl_vin hN hi hS1 2 2 rfl (by decide)
    have keyb : zx_To l E (d + 1) 272 1156 [some (.ref 0), some (.ref 3), some (.ref 132), some (.ref 159), some (.int (nI i)), none, none] [.int (if b then 1 else 0), .int (f (i + 1)), .ref 132, .int v] M1 Qo := by
      refine zl_virt (M := M1) (as := [.int (f (i + 1)), .int (if b then 1 else 0)]) (st := [.int v]) (i := 132) (by omega) (List.all_eq_true.mp zk_L28 _ (List.mem_of_getElem? (i := 31) rfl)) (zx_lis (I := M1.1) (L := M1.2.1) hY1 132 12 rfl rfl) (by decide : 2 = zx_np 252) (Nat.le_of_ble_eq_true rfl) (by decide : 3 ≤ zx_mL 252) hS1 g ?_ ?_
      · rintro w M2 ⟨-, hQ⟩
        exact hdef v M2 M2 hQ (Nat.le_refl _) (Nat.le_refl _)
      rintro w M2 ⟨e, hQ⟩ hS2
      subst e
      exact zx_go zk_L28 [1359] 20 1159 (And.intro (fun _ => hq _ M2 hQ hS2) (fun c => absurd rfl c))
    refine zx_go zk_L28 [1156] 60 1135 (And.intro (Or.inr (by decide)) (And.intro b1.1 (And.intro (Or.inr (by decide)) (And.intro b2.1 (And.intro (fun c => ?_) (fun c => ?_))))))
    · have c : M1.1 0 (nI i + 2).toNatClampNeg = 0 := c
      show zx_To l E (d + 1) 272 1156 [some (.ref 0), some (.ref 3), some (.ref 132), some (.ref 159), some (.int (nI i)), none, none] [.int 0, .int (M1.1 0 (nI i + 1).toNatClampNeg), .ref 132, .int v] M1 Qo
      rw [b2.2] at c
      have e : b = false := by
        cases b
        · rfl
        · exact absurd c (hb.mp rfl)
      rw [b1.2]
      rw [e] at keyb
      exact keyb
    · have c : ¬ M1.1 0 (nI i + 2).toNatClampNeg = 0 := c
      show zx_To l E (d + 1) 272 1156 [some (.ref 0), some (.ref 3), some (.ref 132), some (.ref 159), some (.int (nI i)), none, none] [.int 1, .int (M1.1 0 (nI i + 1).toNatClampNeg), .ref 132, .int v] M1 Qo
      rw [b2.2] at c
      have e : b = true := hb.mpr c
      rw [b1.2]
      rw [e] at keyb
      exact keyb
  refine zx_go zk_L28 [1132] 60 1111 (And.intro (Or.inr (by decide)) (And.intro a1.1 (And.intro (Or.inr (by decide)) (And.intro a2.1 (And.intro (fun c => ?_) (fun c => ?_))))))
  · have c : M.1 0 (nI i + 2).toNatClampNeg = 0 := c
    show zx_To l E (d + 1) 272 1132 [some (.ref 0), some (.ref 3), some (.ref 132), some (.ref 159), some (.int (nI i)), none, none] [.int 0, .int (M.1 0 (nI i + 1).toNatClampNeg), .ref 3] M Qo
    rw [a2.2] at c
    have e : b = false := by
      cases b
      · rfl
      · exact absurd c (hb.mp rfl)
    rw [a1.2]
    rw [e] at keya
    exact keya
  · have c : ¬ M.1 0 (nI i + 2).toNatClampNeg = 0 := c
    show zx_To l E (d + 1) 272 1132 [some (.ref 0), some (.ref 3), some (.ref 132), some (.ref 159), some (.int (nI i)), none, none] [.int 1, .int (M.1 0 (nI i + 1).toNatClampNeg), .ref 3] M Qo
    rw [a2.2] at c
    have e : b = true := hb.mpr c
    rw [a1.2]
    rw [e] at keya
    exact keya
end ZLO
