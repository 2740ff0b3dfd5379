section ZLK
variable {l : Launch} {E : zx_E} {d N i : Nat} {f : Nat → Int32} {M : zx_M} {Q : Int32 → zx_M → Prop} {Qo : Option Value → zx_M → Prop}
theorem zl_c0 (hY : zx_lay M.2.2) (hN : N ≤ 2560) (hi : i + 5 ≤ N) (hS : zl_S N f M)
    (hz : zx_Ci l E d 118 [.ref 3, .int (f (i + 1))] M (fun v M1 => zx_lay M1.2.2 ∧ zx_Ci l E d 176 [.ref 132, .int (f (i + 1))] M1 (fun w M2 => w = v ∧ Q v M2)))
    (hdef : ∀ v M1 M2, Q v M2 → zx_n M1 ≤ zx_n M2 → zx_sl M1 ≤ zx_sl M2 → Qo (some (.int 1)) M1)
    (hq : ∀ v M2, Q v M2 → zl_S N f M2 → zx_To l E (d + 1) 272 1359 [some (.ref 0), some (.ref 3), some (.ref 132), some (.ref 159), some (.int (nI i)), none, none] [] M2 Qo) : zx_To l E (d + 1) 272 200 [some (.ref 0), some (.ref 3), some (.ref 132), some (.ref 159), some (.int (nI i)), none, none] [] M Qo := by
  have a1 := zl_vin hN hi hS 1 1 rfl (by decide)
  refine zx_go zk_L0 [207] 60 200 (And.intro (Or.inr (by decide)) (And.intro a1.1 (?_)))
  show zx_To l E (d + 1) 272 207 [some (.ref 0), some (.ref 3), some (.ref 132), some (.ref 159), some (.int (nI i)), none, none] [.int (M.1 0 (nI i + 1).toNatClampNeg), .ref 3] M Qo
  rw [a1.2]
  refine zl_virt (M := M) (as := [.int (f (i + 1))]) (st := []) (i := 3) (by omega) (List.all_eq_true.mp zk_L0 _ (List.mem_of_getElem? (i := 6) rfl)) (zx_lis (I := M.1) (L := M.2.1) hY 3 11 rfl rfl) (by decide : 1 = zx_np 118) (Nat.le_of_ble_eq_true rfl) (by decide : 2 ≤ zx_mL 118) hS hz ?_ ?_
  · rintro v M1 ⟨-, g⟩
    obtain ⟨r, M2, ⟨w, -, -, hQ⟩, -, hZ⟩ := g
    exact hdef v M1 M2 hQ hZ.1 hZ.2.1
  rintro v M1 ⟨hY1, g⟩ hS1
  have b1 := zl_vin hN hi hS1 1 1 rfl (by decide)
  refine zx_go zk_L0 [217] 60 210 (And.intro (Or.inr (by decide)) (And.intro b1.1 (?_)))
  show zx_To l E (d + 1) 272 217 [some (.ref 0), some (.ref 3), some (.ref 132), some (.ref 159), some (.int (nI i)), none, none] [.int (M1.1 0 (nI i + 1).toNatClampNeg), .ref 132, .int v] M1 Qo
  rw [b1.2]
  refine zl_virt (M := M1) (as := [.int (f (i + 1))]) (st := [.int v]) (i := 132) (by omega) (List.all_eq_true.mp zk_L0 _ (List.mem_of_getElem? (i := 13) rfl)) (zx_lis (I := M1.1) (L := M1.2.1) hY1 132 12 rfl rfl) (by decide : 1 = zx_np 176) (Nat.le_of_ble_eq_true rfl) (by decide : 2 ≤ zx_mL 176) hS1 g ?_ ?_
  · rintro w M2 ⟨-, hQ⟩
    exact hdef v M2 M2 hQ (Nat.le_refl _) (Nat.le_refl _)
  rintro w M2 ⟨e, hQ⟩ hS2
  subst e
  exact zx_go zk_L0 [1359] 20 220 (And.intro (fun _ => hq _ M2 hQ hS2) (fun c => absurd rfl c))
theorem zl_c1 (hY : zx_lay M.2.2) (hN : N ≤ 2560) (hi : i + 5 ≤ N) (hS : zl_S N f M)
    (hz : zx_Ci l E d 119 [.ref 3, .int (f (i + 1))] M (fun v M1 => zx_lay M1.2.2 ∧ zx_Ci l E d 177 [.ref 132, .int (f (i + 1))] M1 (fun w M2 => w = v ∧ Q v M2)))
    (hdef : ∀ v M1 M2, Q v M2 → zx_n M1 ≤ zx_n M2 → zx_sl M1 ≤ zx_sl M2 → Qo (some (.int 1)) M1)
    (hq : ∀ v M2, Q v M2 → zl_S N f M2 → zx_To l E (d + 1) 272 1359 [some (.ref 0), some (.ref 3), some (.ref 132), some (.ref 159), some (.int (nI i)), none, none] [] M2 Qo) : zx_To l E (d + 1) 272 225 [some (.ref 0), some (.ref 3), some (.ref 132), some (.ref 159), some (.int (nI i)), none, none] [] M Qo := by
  have a1 := zl_vin hN hi hS 1 1 rfl (by decide)
  refine zx_go zk_L1 [232] 60 225 (And.intro (Or.inr (by decide)) (And.intro a1.1 (?_)))
  show zx_To l E (d + 1) 272 232 [some (.ref 0), some (.ref 3), some (.ref 132), some (.ref 159), some (.int (nI i)), none, none] [.int (M.1 0 (nI i + 1).toNatClampNeg), .ref 3] M Qo
  rw [a1.2]
  refine zl_virt (M := M) (as := [.int (f (i + 1))]) (st := []) (i := 3) (by omega) (List.all_eq_true.mp zk_L1 _ (List.mem_of_getElem? (i := 6) rfl)) (zx_lis (I := M.1) (L := M.2.1) hY 3 11 rfl rfl) (by decide : 1 = zx_np 119) (Nat.le_of_ble_eq_true rfl) (by decide : 2 ≤ zx_mL 119) hS hz ?_ ?_
  · rintro v M1 ⟨-, g⟩
    obtain ⟨r, M2, ⟨w, -, -, hQ⟩, -, hZ⟩ := g
    exact hdef v M1 M2 hQ hZ.1 hZ.2.1
  rintro v M1 ⟨hY1, g⟩ hS1
  have b1 := zl_vin hN hi hS1 1 1 rfl (by decide)
  refine zx_go zk_L1 [242] 60 235 (And.intro (Or.inr (by decide)) (And.intro b1.1 (?_)))
  show zx_To l E (d + 1) 272 242 [some (.ref 0), some (.ref 3), some (.ref 132), some (.ref 159), some (.int (nI i)), none, none] [.int (M1.1 0 (nI i + 1).toNatClampNeg), .ref 132, .int v] M1 Qo
  rw [b1.2]
  refine zl_virt (M := M1) (as := [.int (f (i + 1))]) (st := [.int v]) (i := 132) (by omega) (List.all_eq_true.mp zk_L1 _ (List.mem_of_getElem? (i := 13) rfl)) (zx_lis (I := M1.1) (L := M1.2.1) hY1 132 12 rfl rfl) (by decide : 1 = zx_np 177) (Nat.le_of_ble_eq_true rfl) (by decide : 2 ≤ zx_mL 177) hS1 g ?_ ?_
  · rintro w M2 ⟨-, hQ⟩
    exact hdef v M2 M2 hQ (Nat.le_refl _) (Nat.le_refl _)
  rintro w M2 ⟨e, hQ⟩ hS2
  subst e
  exact zx_go zk_L1 [1359] 20 245 (And.intro (fun _ => hq _ M2 hQ hS2) (fun c => absurd rfl c))
theorem zl_c2 (hY : zx_lay M.2.2) (hN : N ≤ 2560) (hi : i + 5 ≤ N) (hS : zl_S N f M)
    (hz : zx_Ci l E d 120 [.ref 3] M (fun v M1 => zx_lay M1.2.2 ∧ zx_Ci l E d 185 [.ref 132] M1 (fun w M2 => w = v ∧ Q v M2)))
    (hdef : ∀ v M1 M2, Q v M2 → zx_n M1 ≤ zx_n M2 → zx_sl M1 ≤ zx_sl M2 → Qo (some (.int 1)) M1)
    (hq : ∀ v M2, Q v M2 → zl_S N f M2 → zx_To l E (d + 1) 272 1359 [some (.ref 0), some (.ref 3), some (.ref 132), some (.ref 159), some (.int (nI i)), none, none] [] M2 Qo) : zx_To l E (d + 1) 272 250 [some (.ref 0), some (.ref 3), some (.ref 132), some (.ref 159), some (.int (nI i)), none, none] [] M Qo := by
  refine zx_go zk_L2 [251] 60 250 (?_)
  show zx_To l E (d + 1) 272 251 [some (.ref 0), some (.ref 3), some (.ref 132), some (.ref 159), some (.int (nI i)), none, none] [.ref 3] M Qo
  refine zl_virt (M := M) (as := []) (st := []) (i := 3) (by omega) (List.all_eq_true.mp zk_L2 _ (List.mem_of_getElem? (i := 1) rfl)) (zx_lis (I := M.1) (L := M.2.1) hY 3 11 rfl rfl) (by decide : 0 = zx_np 120) (Nat.le_of_ble_eq_true rfl) (by decide : 1 ≤ zx_mL 120) hS hz ?_ ?_
  · rintro v M1 ⟨-, g⟩
    obtain ⟨r, M2, ⟨w, -, -, hQ⟩, -, hZ⟩ := g
    exact hdef v M1 M2 hQ hZ.1 hZ.2.1
  rintro v M1 ⟨hY1, g⟩ hS1
  refine zx_go zk_L2 [255] 60 254 (?_)
  show zx_To l E (d + 1) 272 255 [some (.ref 0), some (.ref 3), some (.ref 132), some (.ref 159), some (.int (nI i)), none, none] [.ref 132, .int v] M1 Qo
  refine zl_virt (M := M1) (as := []) (st := [.int v]) (i := 132) (by omega) (List.all_eq_true.mp zk_L2 _ (List.mem_of_getElem? (i := 3) rfl)) (zx_lis (I := M1.1) (L := M1.2.1) hY1 132 12 rfl rfl) (by decide : 0 = zx_np 185) (Nat.le_of_ble_eq_true rfl) (by decide : 1 ≤ zx_mL 185) hS1 g ?_ ?_
  · rintro w M2 ⟨-, hQ⟩
    exact hdef v M2 M2 hQ (Nat.le_refl _) (Nat.le_refl _)
  rintro w M2 ⟨e, hQ⟩ hS2
  subst e
  exact zx_go zk_L2 [1359] 20 258 (And.intro (fun _ => hq _ M2 hQ hS2) (fun c => absurd rfl c))
theorem zl_c3 (hY : zx_lay M.2.2) (hN : N ≤ 2560) (hi : i + 5 ≤ N) (hS : zl_S N f M)
    (hz : zx_Ci l E d 121 [.ref 3, .int (f (i + 1)), .int (f (i + 2)), .int (f (i + 3)), .int (f (i + 4))] M (fun v M1 => zx_lay M1.2.2 ∧ zx_Ci l E d 186 [.ref 132, .int (f (i + 1)), .int (f (i + 2)), .int (f (i + 3)), .int (f (i + 4))] M1 (fun w M2 => w = v ∧ Q v M2)))
    (hdef : ∀ v M1 M2, Q v M2 → zx_n M1 ≤ zx_n M2 → zx_sl M1 ≤ zx_sl M2 → Qo (some (.int 1)) M1)
    (hq : ∀ v M2, Q v M2 → zl_S N f M2 → zx_To l E (d + 1) 272 1359 [some (.ref 0), some (.ref 3), some (.ref 132), some (.ref 159), some (.int (nI i)), none, none] [] M2 Qo) : zx_To l E (d + 1) 272 263 [some (.ref 0), some (.ref 3), some (.ref 132), some (.ref 159), some (.int (nI i)), none, none] [] M Qo := by
  have a1 := zl_vin hN hi hS 1 1 rfl (by decide)
  have a2 := zl_vin hN hi hS 2 2 rfl (by decide)
  have a3 := zl_vin hN hi hS 3 3 rfl (by decide)
  have a4 := zl_vin hN hi hS 4 4 rfl (by decide)
  refine zx_go zk_L3 [288] 60 263 (And.intro (Or.inr (by decide)) (And.intro a1.1 (And.intro (Or.inr (by decide)) (And.intro a2.1 (And.intro (Or.inr (by decide)) (And.intro a3.1 (And.intro (Or.inr (by decide)) (And.intro a4.1 (?_)))))))))
  show zx_To l E (d + 1) 272 288 [some (.ref 0), some (.ref 3), some (.ref 132), some (.ref 159), some (.int (nI i)), none, none] [.int (M.1 0 (nI i + 4).toNatClampNeg), .int (M.1 0 (nI i + 3).toNatClampNeg), .int (M.1 0 (nI i + 2).toNatClampNeg), .int (M.1 0 (nI i + 1).toNatClampNeg), .ref 3] M Qo
  rw [a1.2, a2.2, a3.2, a4.2]
  refine zl_virt (M := M) (as := [.int (f (i + 1)), .int (f (i + 2)), .int (f (i + 3)), .int (f (i + 4))]) (st := []) (i := 3) (by omega) (List.all_eq_true.mp zk_L3 _ (List.mem_of_getElem? (i := 21) rfl)) (zx_lis (I := M.1) (L := M.2.1) hY 3 11 rfl rfl) (by decide : 4 = zx_np 121) (Nat.le_of_ble_eq_true rfl) (by decide : 5 ≤ zx_mL 121) hS hz ?_ ?_
  · rintro v M1 ⟨-, g⟩
    obtain ⟨r, M2, ⟨w, -, -, hQ⟩, -, hZ⟩ := g
    exact hdef v M1 M2 hQ hZ.1 hZ.2.1
  rintro v M1 ⟨hY1, g⟩ hS1
  have b1 := zl_vin hN hi hS1 1 1 rfl (by decide)
  have b2 := zl_vin hN hi hS1 2 2 rfl (by decide)
  have b3 := zl_vin hN hi hS1 3 3 rfl (by decide)
  have b4 := zl_vin hN hi hS1 4 4 rfl (by decide)
  refine zx_go zk_L3 [316] 60 291 (And.intro (Or.inr (by decide)) (And.intro b1.1 (And.intro (Or.inr (by decide)) (And.intro b2.1 (And.intro (Or.inr (by decide)) (And.intro b3.1 (And.intro (Or.inr (by decide)) (And.intro b4.1 (?_)))))))))
  show zx_To l E (d + 1) 272 316 [some (.ref 0), some (.ref 3), some (.ref 132), some (.ref 159), some (.int (nI i)), none, none] [.int (M1.1 0 (nI i + 4).toNatClampNeg), .int (M1.1 0 (nI i + 3).toNatClampNeg), .int (M1.1 0 (nI i + 2).toNatClampNeg), .int (M1.1 0 (nI i + 1).toNatClampNeg), .ref 132, .int v] M1 Qo
  rw [b1.2, b2.2, b3.2, b4.2]
  refine zl_virt (M := M1) (as := [.int (f (i + 1)), .int (f (i + 2)), .int (f (i + 3)), .int (f (i + 4))]) (st := [.int v]) (i := 132) (by omega) (List.all_eq_true.mp zk_L3 _ (List.mem_of_getElem? (i := 43) rfl)) (zx_lis (I := M1.1) (L := M1.2.1) hY1 132 12 rfl rfl) (by decide : 4 = zx_np 186) (Nat.le_of_ble_eq_true rfl) (by decide : 5 ≤ zx_mL 186) hS1 g ?_ ?_
  · rintro w M2 ⟨-, hQ⟩
    exact hdef v M2 M2 hQ (Nat.le_refl _) (Nat.le_refl _)
  rintro w M2 ⟨e, hQ⟩ hS2
  subst e
  exact zx_go zk_L3 [1359] 20 319 (And.intro (fun _ => hq _ M2 hQ hS2) (fun c => absurd rfl c))
theorem zl_c5 (hY : zx_lay M.2.2) (hN : N ≤ 2560) (hi : i + 5 ≤ N) (hS : zl_S N f M)
    (hz : zx_Ci l E d 123 [.ref 3, .int (f (i + 1)), .int (f (i + 2)), .int (f (i + 3))] M (fun v M1 => zx_lay M1.2.2 ∧ zx_Ci l E d 188 [.ref 132, .int (f (i + 1)), .int (f (i + 2)), .int (f (i + 3))] M1 (fun w M2 => w = v ∧ Q v M2)))
    (hdef : ∀ v M1 M2, Q v M2 → zx_n M1 ≤ zx_n M2 → zx_sl M1 ≤ zx_sl M2 → Qo (some (.int 1)) M1)
    (hq : ∀ v M2, Q v M2 → zl_S N f M2 → zx_To l E (d + 1) 272 1359 [some (.ref 0), some (.ref 3), some (.ref 132), some (.ref 159), some (.int (nI i)), none, none] [] M2 Qo) : zx_To l E (d + 1) 272 392 [some (.ref 0), some (.ref 3), some (.ref 132), some (.ref 159), some (.int (nI i)), none, none] [] M Qo := by
  have a1 := zl_vin hN hi hS 1 1 rfl (by decide)
  have a2 := zl_vin hN hi hS 2 2 rfl (by decide)
  have a3 := zl_vin hN hi hS 3 3 rfl (by decide)
  refine zx_go zk_L5 [411] 60 392 (And.intro (Or.inr (by decide)) (And.intro a1.1 (And.intro (Or.inr (by decide)) (And.intro a2.1 (And.intro (Or.inr (by decide)) (And.intro a3.1 (?_)))))))
  show zx_To l E (d + 1) 272 411 [some (.ref 0), some (.ref 3), some (.ref 132), some (.ref 159), some (.int (nI i)), none, none] [.int (M.1 0 (nI i + 3).toNatClampNeg), .int (M.1 0 (nI i + 2).toNatClampNeg), .int (M.1 0 (nI i + 1).toNatClampNeg), .ref 3] M Qo
  rw [a1.2, a2.2, a3.2]
  refine zl_virt (M := M) (as := [.int (f (i + 1)), .int (f (i + 2)), .int (f (i + 3))]) (st := []) (i := 3) (by omega) (List.all_eq_true.mp zk_L5 _ (List.mem_of_getElem? (i := 16) rfl)) (zx_lis (I := M.1) (L := M.2.1) hY 3 11 rfl rfl) (by decide : 3 = zx_np 123) (Nat.le_of_ble_eq_true rfl) (by decide : 4 ≤ zx_mL 123) hS hz ?_ ?_
  · rintro v M1 ⟨-, g⟩
    obtain ⟨r, M2, ⟨w, -, -, hQ⟩, -, hZ⟩ := g
    exact hdef v M1 M2 hQ hZ.1 hZ.2.1
  rintro v M1 ⟨hY1, g⟩ hS1
  have b1 := zl_vin hN hi hS1 1 1 rfl (by decide)
  have b2 := zl_vin hN hi hS1 2 2 rfl (by decide)
  have b3 := zl_vin hN hi hS1 3 3 rfl (by decide)
  refine zx_go zk_L5 [433] 60 414 (And.intro (Or.inr (by decide)) (And.intro b1.1 (And.intro (Or.inr (by decide)) (And.intro b2.1 (And.intro (Or.inr (by decide)) (And.intro b3.1 (?_)))))))
  show zx_To l E (d + 1) 272 433 [some (.ref 0), some (.ref 3), some (.ref 132), some (.ref 159), some (.int (nI i)), none, none] [.int (M1.1 0 (nI i + 3).toNatClampNeg), .int (M1.1 0 (nI i + 2).toNatClampNeg), .int (M1.1 0 (nI i + 1).toNatClampNeg), .ref 132, .int v] M1 Qo
  rw [b1.2, b2.2, b3.2]
  refine zl_virt (M := M1) (as := [.int (f (i + 1)), .int (f (i + 2)), .int (f (i + 3))]) (st := [.int v]) (i := 132) (by omega) (List.all_eq_true.mp zk_L5 _ (List.mem_of_getElem? (i := 33) rfl)) (zx_lis (I := M1.1) (L := M1.2.1) hY1 132 12 rfl rfl) (by decide : 3 = zx_np 188) (Nat.le_of_ble_eq_true rfl) (by decide : 4 ≤ zx_mL 188) hS1 g ?_ ?_
  · rintro w M2 ⟨-, hQ⟩
    exact hdef v M2 M2 hQ (Nat.le_refl _) (Nat.le_refl _)
  rintro w M2 ⟨e, hQ⟩ hS2
  subst e
  exact zx_go zk_L5 [1359] 20 436 (And.intro (fun _ => hq _ M2 hQ hS2) (fun c => absurd rfl c))
theorem zl_c6 (hY : zx_lay M.2.2) (hN : N ≤ 2560) (hi : i + 5 ≤ N) (hS : zl_S N f M)
    (hz : zx_Ci l E d 124 [.ref 3, .int (f (i + 1))] M (fun v M1 => zx_lay M1.2.2 ∧ zx_Ci l E d 193 [.ref 132, .int (f (i + 1))] M1 (fun w M2 => w = v ∧ Q v M2)))
    (hdef : ∀ v M1 M2, Q v M2 → zx_n M1 ≤ zx_n M2 → zx_sl M1 ≤ zx_sl M2 → Qo (some (.int 1)) M1)
    (hq : ∀ v M2, Q v M2 → zl_S N f M2 → zx_To l E (d + 1) 272 1359 [some (.ref 0), some (.ref 3), some (.ref 132), some (.ref 159), some (.int (nI i)), none, none] [] M2 Qo) : zx_To l E (d + 1) 272 441 [some (.ref 0), some (.ref 3), some (.ref 132), some (.ref 159), some (.int (nI i)), none, none] [] M Qo := by
  have a1 := zl_vin hN hi hS 1 1 rfl (by decide)
  refine zx_go zk_L6 [448] 60 441 (And.intro (Or.inr (by decide)) (And.intro a1.1 (?_)))
  show zx_To l E (d + 1) 272 448 [some (.ref 0), some (.ref 3), some (.ref 132), some (.ref 159), some (.int (nI i)), none, none] [.int (M.1 0 (nI i + 1).toNatClampNeg), .ref 3] M Qo
  rw [a1.2]
  refine zl_virt (M := M) (as := [.int (f (i + 1))]) (st := []) (i := 3) (by omega) (List.all_eq_true.mp zk_L6 _ (List.mem_of_getElem? (i := 6) rfl)) (zx_lis (I := M.1) (L := M.2.1) hY 3 11 rfl rfl) (by decide : 1 = zx_np 124) (Nat.le_of_ble_eq_true rfl) (by decide : 2 ≤ zx_mL 124) hS hz ?_ ?_
  · rintro v M1 ⟨-, g⟩
    obtain ⟨r, M2, ⟨w, -, -, hQ⟩, -, hZ⟩ := g
    exact hdef v M1 M2 hQ hZ.1 hZ.2.1
  rintro v M1 ⟨hY1, g⟩ hS1
  have b1 := zl_vin hN hi hS1 1 1 rfl (by decide)
  refine zx_go zk_L6 [458] 60 451 (And.intro (Or.inr (by decide)) (And.intro b1.1 (?_)))
  show zx_To l E (d + 1) 272 458 [some (.ref 0), some (.ref 3), some (.ref 132), some (.ref 159), some (.int (nI i)), none, none] [.int (M1.1 0 (nI i + 1).toNatClampNeg), .ref 132, .int v] M1 Qo
  rw [b1.2]
  refine zl_virt (M := M1) (as := [.int (f (i + 1))]) (st := [.int v]) (i := 132) (by omega) (List.all_eq_true.mp zk_L6 _ (List.mem_of_getElem? (i := 13) rfl)) (zx_lis (I := M1.1) (L := M1.2.1) hY1 132 12 rfl rfl) (by decide : 1 = zx_np 193) (Nat.le_of_ble_eq_true rfl) (by decide : 2 ≤ zx_mL 193) hS1 g ?_ ?_
  · rintro w M2 ⟨-, hQ⟩
    exact hdef v M2 M2 hQ (Nat.le_refl _) (Nat.le_refl _)
  rintro w M2 ⟨e, hQ⟩ hS2
  subst e
  exact zx_go zk_L6 [1359] 20 461 (And.intro (fun _ => hq _ M2 hQ hS2) (fun c => absurd rfl c))
theorem zl_c7 (hY : zx_lay M.2.2) (hN : N ≤ 2560) (hi : i + 5 ≤ N) (hS : zl_S N f M)
    (hz : zx_Ci l E d 125 [.ref 3, .int (f (i + 1))] M (fun v M1 => zx_lay M1.2.2 ∧ zx_Ci l E d 194 [.ref 132, .int (f (i + 1))] M1 (fun w M2 => w = v ∧ Q v M2)))
    (hdef : ∀ v M1 M2, Q v M2 → zx_n M1 ≤ zx_n M2 → zx_sl M1 ≤ zx_sl M2 → Qo (some (.int 1)) M1)
    (hq : ∀ v M2, Q v M2 → zl_S N f M2 → zx_To l E (d + 1) 272 1359 [some (.ref 0), some (.ref 3), some (.ref 132), some (.ref 159), some (.int (nI i)), none, none] [] M2 Qo) : zx_To l E (d + 1) 272 466 [some (.ref 0), some (.ref 3), some (.ref 132), some (.ref 159), some (.int (nI i)), none, none] [] M Qo := by
  have a1 := zl_vin hN hi hS 1 1 rfl (by decide)
  refine zx_go zk_L7 [473] 60 466 (And.intro (Or.inr (by decide)) (And.intro a1.1 (?_)))
  show zx_To l E (d + 1) 272 473 [some (.ref 0), some (.ref 3), some (.ref 132), some (.ref 159), some (.int (nI i)), none, none] [.int (M.1 0 (nI i + 1).toNatClampNeg), .ref 3] M Qo
  rw [a1.2]
  refine zl_virt (M := M) (as := [.int (f (i + 1))]) (st := []) (i := 3) (by omega) (List.all_eq_true.mp zk_L7 _ (List.mem_of_getElem? (i := 6) rfl)) (zx_lis (I := M.1) (L := M.2.1) hY 3 11 rfl rfl) (by decide : 1 = zx_np 125) (Nat.le_of_ble_eq_true rfl) (by decide : 2 ≤ zx_mL 125) hS hz ?_ ?_
  · rintro v M1 ⟨-, g⟩
    obtain ⟨r, M2, ⟨w, -, -, hQ⟩, -, hZ⟩ := g
    exact hdef v M1 M2 hQ hZ.1 hZ.2.1
  rintro v M1 ⟨hY1, g⟩ hS1
  have b1 := zl_vin hN hi hS1 1 1 rfl (by decide)
  refine zx_go zk_L7 [483] 60 476 (And.intro (Or.inr (by decide)) (And.intro b1.1 (?_)))
  show zx_To l E (d + 1) 272 483 [some (.ref 0), some (.ref 3), some (.ref 132), some (.ref 159), some (.int (nI i)), none, none] [.int (M1.1 0 (nI i + 1).toNatClampNeg), .ref 132, .int v] M1 Qo
  rw [b1.2]
  refine zl_virt (M := M1) (as := [.int (f (i + 1))]) (st := [.int v]) (i := 132) (by omega) (List.all_eq_true.mp zk_L7 _ (List.mem_of_getElem? (i := 13) rfl)) (zx_lis (I := M1.1) (L := M1.2.1) hY1 132 12 rfl rfl) (by decide : 1 = zx_np 194) (Nat.le_of_ble_eq_true rfl) (by decide : 2 ≤ zx_mL 194) hS1 g ?_ ?_
  · rintro w M2 ⟨-, hQ⟩
    exact hdef v M2 M2 hQ (Nat.le_refl _) (Nat.le_refl _)
  rintro w M2 ⟨e, hQ⟩ hS2
  subst e
  exact zx_go zk_L7 [1359] 20 486 (And.intro (fun _ => hq _ M2 hQ hS2) (fun c => absurd rfl c))
theorem zl_c8 (hY : zx_lay M.2.2) (hN : N ≤ 2560) (hi : i + 5 ≤ N) (hS : zl_S N f M)
    (hz : zx_Ci l E d 126 [.ref 3, .int (f (i + 1))] M (fun v M1 => zx_lay M1.2.2 ∧ zx_Ci l E d 196 [.ref 132, .int (f (i + 1))] M1 (fun w M2 => w = v ∧ Q v M2)))
    (hdef : ∀ v M1 M2, Q v M2 → zx_n M1 ≤ zx_n M2 → zx_sl M1 ≤ zx_sl M2 → Qo (some (.int 1)) M1)
    (hq : ∀ v M2, Q v M2 → zl_S N f M2 → zx_To l E (d + 1) 272 1359 [some (.ref 0), some (.ref 3), some (.ref 132), some (.ref 159), some (.int (nI i)), none, none] [] M2 Qo) : zx_To l E (d + 1) 272 491 [some (.ref 0), some (.ref 3), some (.ref 132), some (.ref 159), some (.int (nI i)), none, none] [] M Qo := by
  have a1 := zl_vin hN hi hS 1 1 rfl (by decide)
  refine zx_go zk_L8 [498] 60 491 (And.intro (Or.inr (by decide)) (And.intro a1.1 (?_)))
  show zx_To l E (d + 1) 272 498 [some (.ref 0), some (.ref 3), some (.ref 132), some (.ref 159), some (.int (nI i)), none, none] [.int (M.1 0 (nI i + 1).toNatClampNeg), .ref 3] M Qo
  rw [a1.2]
  refine zl_virt (M := M) (as := [.int (f (i + 1))]) (st := []) (i := 3) (by omega) (List.all_eq_true.mp zk_L8 _ (List.mem_of_getElem? (i := 6) rfl)) (zx_lis (I := M.1) (L := M.2.1) hY 3 11 rfl rfl) (by decide : 1 = zx_np 126) (Nat.le_of_ble_eq_true rfl) (by decide : 2 ≤ zx_mL 126) hS hz ?_ ?_
  · rintro v M1 ⟨-, g⟩
    obtain ⟨r, M2, ⟨w, -, -, hQ⟩, -, hZ⟩ := g
    exact hdef v M1 M2 hQ hZ.1 hZ.2.1
  rintro v M1 ⟨hY1, g⟩ hS1
  have b1 := zl_vin hN hi hS1 1 1 rfl (by decide)
  refine zx_go zk_L8 [508] 60 501 (And.intro (Or.inr (by decide)) (And.intro b1.1 (?_)))
  show zx_To l E (d + 1) 272 508 [some (.ref 0), some (.ref 3), some (.ref 132), some (.ref 159), some (.int (nI i)), none, none] [.int (M1.1 0 (nI i + 1).toNatClampNeg), .ref 132, .int v] M1 Qo
  rw [b1.2]
  refine zl_virt (M := M1) (as := [.int (f (i + 1))]) (st := [.int v]) (i := 132) (by omega) (List.all_eq_true.mp zk_L8 _ (List.mem_of_getElem? (i := 13) rfl)) (zx_lis (I := M1.1) (L := M1.2.1) hY1 132 12 rfl rfl) (by decide : 1 = zx_np 196) (Nat.le_of_ble_eq_true rfl) (by decide : 2 ≤ zx_mL 196) hS1 g ?_ ?_
  · rintro w M2 ⟨-, hQ⟩
    exact hdef v M2 M2 hQ (Nat.le_refl _) (Nat.le_refl _)
  rintro w M2 ⟨e, hQ⟩ hS2
  subst e
  exact zx_go zk_L8 [1359] 20 511 (And.intro (fun _ => hq _ M2 hQ hS2) (fun c => absurd rfl c))
theorem zl_c9 (hY : zx_lay M.2.2) (hN : N ≤ 2560) (hi : i + 5 ≤ N) (hS : zl_S N f M)
    (hz : zx_Ci l E d 127 [.ref 3] M (fun v M1 => zx_lay M1.2.2 ∧ zx_Ci l E d 197 [.ref 132] M1 (fun w M2 => w = v ∧ Q v M2)))
    (hdef : ∀ v M1 M2, Q v M2 → zx_n M1 ≤ zx_n M2 → zx_sl M1 ≤ zx_sl M2 → Qo (some (.int 1)) M1)
    (hq : ∀ v M2, Q v M2 → zl_S N f M2 → zx_To l E (d + 1) 272 1359 [some (.ref 0), some (.ref 3), some (.ref 132), some (.ref 159), some (.int (nI i)), none, none] [] M2 Qo) : zx_To l E (d + 1) 272 516 [some (.ref 0), some (.ref 3), some (.ref 132), some (.ref 159), some (.int (nI i)), none, none] [] M Qo := by
  refine zx_go zk_L9 [517] 60 516 (?_)
  show zx_To l E (d + 1) 272 517 [some (.ref 0), some (.ref 3), some (.ref 132), some (.ref 159), some (.int (nI i)), none, none] [.ref 3] M Qo
  refine zl_virt (M := M) (as := []) (st := []) (i := 3) (by omega) (List.all_eq_true.mp zk_L9 _ (List.mem_of_getElem? (i := 1) rfl)) (zx_lis (I := M.1) (L := M.2.1) hY 3 11 rfl rfl) (by decide : 0 = zx_np 127) (Nat.le_of_ble_eq_true rfl) (by decide : 1 ≤ zx_mL 127) hS hz ?_ ?_
  · rintro v M1 ⟨-, g⟩
    obtain ⟨r, M2, ⟨w, -, -, hQ⟩, -, hZ⟩ := g
    exact hdef v M1 M2 hQ hZ.1 hZ.2.1
  rintro v M1 ⟨hY1, g⟩ hS1
  refine zx_go zk_L9 [521] 60 520 (?_)
  show zx_To l E (d + 1) 272 521 [some (.ref 0), some (.ref 3), some (.ref 132), some (.ref 159), some (.int (nI i)), none, none] [.ref 132, .int v] M1 Qo
  refine zl_virt (M := M1) (as := []) (st := [.int v]) (i := 132) (by omega) (List.all_eq_true.mp zk_L9 _ (List.mem_of_getElem? (i := 3) rfl)) (zx_lis (I := M1.1) (L := M1.2.1) hY1 132 12 rfl rfl) (by decide : 0 = zx_np 197) (Nat.le_of_ble_eq_true rfl) (by decide : 1 ≤ zx_mL 197) hS1 g ?_ ?_
  · rintro w M2 ⟨-, hQ⟩
    exact hdef v M2 M2 hQ (Nat.le_refl _) (Nat.le_refl _)
  rintro w M2 ⟨e, hQ⟩ hS2
  subst e
  exact zx_go zk_L9 [1359] 20 524 (And.intro (fun _ => hq _ M2 hQ hS2) (fun c => absurd rfl c))
theorem zl_c10 (hY : zx_lay M.2.2) (hN : N ≤ 2560) (hi : i + 5 ≤ N) (hS : zl_S N f M)
    (hz : zx_Ci l E d 128 [.ref 3] M (fun v M1 => zx_lay M1.2.2 ∧ zx_Ci l E d 206 [.ref 132] M1 (fun w M2 => w = v ∧ Q v M2)))
    (hdef : ∀ v M1 M2, Q v M2 → zx_n M1 ≤ zx_n M2 → zx_sl M1 ≤ zx_sl M2 → Qo (some (.int 1)) M1)
    (hq : ∀ v M2, Q v M2 → zl_S N f M2 → zx_To l E (d + 1) 272 1359 [some (.ref 0), some (.ref 3), some (.ref 132), some (.ref 159), some (.int (nI i)), none, none] [] M2 Qo) : zx_To l E (d + 1) 272 529 [some (.ref 0), some (.ref 3), some (.ref 132), some (.ref 159), some (.int (nI i)), none, none] [] M Qo := by
  refine zx_go zk_L10 [530] 60 529 (?_)
  show zx_To l E (d + 1) 272 530 [some (.ref 0), some (.ref 3), some (.ref 132), some (.ref 159), some (.int (nI i)), none, none] [.ref 3] M Qo
  refine zl_virt (M := M) (as := []) (st := []) (i := 3) (by omega) (List.all_eq_true.mp zk_L10 _ (List.mem_of_getElem? (i := 1) rfl)) (zx_lis (I := M.1) (L := M.2.1) hY 3 11 rfl rfl) (by decide : 0 = zx_np 128) (Nat.le_of_ble_eq_true rfl) (by decide : 1 ≤ zx_mL 128) hS hz ?_ ?_
  · rintro v M1 ⟨-, g⟩
    obtain ⟨r, M2, ⟨w, -, -, hQ⟩, -, hZ⟩ := g
    exact hdef v M1 M2 hQ hZ.1 hZ.2.1
  rintro v M1 ⟨hY1, g⟩ hS1
  refine zx_go zk_L10 [534] 60 533 (?_)
  show zx_To l E (d + 1) 272 534 [some (.ref 0), some (.ref 3), some (.ref 132), some (.ref 159), some (.int (nI i)), none, none] [.ref 132, .int v] M1 Qo
  refine zl_virt (M := M1) (as := []) (st := [.int v]) (i := 132) (by omega) (List.all_eq_true.mp zk_L10 _ (List.mem_of_getElem? (i := 3) rfl)) (zx_lis (I := M1.1) (L := M1.2.1) hY1 132 12 rfl rfl) (by decide : 0 = zx_np 206) (Nat.le_of_ble_eq_true rfl) (by decide : 1 ≤ zx_mL 206) hS1 g ?_ ?_
  · rintro w M2 ⟨-, hQ⟩
    exact hdef v M2 M2 hQ (Nat.le_refl _) (Nat.le_refl _)
  rintro w M2 ⟨e, hQ⟩ hS2
  subst e
  exact zx_go zk_L10 [1359] 20 537 (And.intro (fun _ => hq _ M2 hQ hS2) (fun c => absurd rfl c))
theorem zl_c11 (hY : zx_lay M.2.2) (hN : N ≤ 2560) (hi : i + 5 ≤ N) (hS : zl_S N f M)
    (hz : zx_Ci l E d 129 [.ref 3, .int (f (i + 1)), .int (f (i + 2))] M (fun v M1 => zx_lay M1.2.2 ∧ zx_Ci l E d 207 [.ref 132, .int (f (i + 1)), .int (f (i + 2))] M1 (fun w M2 => w = v ∧ Q v M2)))
    (hdef : ∀ v M1 M2, Q v M2 → zx_n M1 ≤ zx_n M2 → zx_sl M1 ≤ zx_sl M2 → Qo (some (.int 1)) M1)
    (hq : ∀ v M2, Q v M2 → zl_S N f M2 → zx_To l E (d + 1) 272 1359 [some (.ref 0), some (.ref 3), some (.ref 132), some (.ref 159), some (.int (nI i)), none, none] [] M2 Qo) : zx_To l E (d + 1) 272 542 [some (.ref 0), some (.ref 3), some (.ref 132), some (.ref 159), some (.int (nI i)), none, none] [] M Qo := by
  have a1 := zl_vin hN hi hS 1 1 rfl (by decide)
  have a2 := zl_vin hN hi hS 2 2 rfl (by decide)
  refine zx_go zk_L11 [555] 60 542 (And.intro (Or.inr (by decide)) (And.intro a1.1 (And.intro (Or.inr (by decide)) (And.intro a2.1 (?_)))))
  show zx_To l E (d + 1) 272 555 [some (.ref 0), some (.ref 3), some (.ref 132), some (.ref 159), some (.int (nI i)), none, none] [.int (M.1 0 (nI i + 2).toNatClampNeg), .int (M.1 0 (nI i + 1).toNatClampNeg), .ref 3] M Qo
  rw [a1.2, a2.2]
  refine zl_virt (M := M) (as := [.int (f (i + 1)), .int (f (i + 2))]) (st := []) (i := 3) (by omega) (List.all_eq_true.mp zk_L11 _ (List.mem_of_getElem? (i := 11) rfl)) (zx_lis (I := M.1) (L := M.2.1) hY 3 11 rfl rfl) (by decide : 2 = zx_np 129) (Nat.le_of_ble_eq_true rfl) (by decide : 3 ≤ zx_mL 129) hS hz ?_ ?_
  · rintro v M1 ⟨-, g⟩
    obtain ⟨r, M2, ⟨w, -, -, hQ⟩, -, hZ⟩ := g
    exact hdef v M1 M2 hQ hZ.1 hZ.2.1
  rintro v M1 ⟨hY1, g⟩ hS1
  have b1 := zl_vin hN hi hS1 1 1 rfl (by decide)
  have b2 := zl_vin hN hi hS1 2 2 rfl (by decide)
  refine zx_go zk_L11 [571] 60 558 (And.intro (Or.inr (by decide)) (And.intro b1.1 (And.intro (Or.inr (by decide)) (And.intro b2.1 (?_)))))
  show zx_To l E (d + 1) 272 571 [some (.ref 0), some (.ref 3), some (.ref 132), some (.ref 159), some (.int (nI i)), none, none] [.int (M1.1 0 (nI i + 2).toNatClampNeg), .int (M1.1 0 (nI i + 1).toNatClampNeg), .ref 132, .int v] M1 Qo
  rw [b1.2, b2.2]
  refine zl_virt (M := M1) (as := [.int (f (i + 1)), .int (f (i + 2))]) (st := [.int v]) (i := 132) (by omega) (List.all_eq_true.mp zk_L11 _ (List.mem_of_getElem? (i := 23) rfl)) (zx_lis (I := M1.1) (L := M1.2.1) hY1 132 12 rfl rfl) (by decide : 2 = zx_np 207) (Nat.le_of_ble_eq_true rfl) (by decide : 3 ≤ zx_mL 207) hS1 g ?_ ?_
  · rintro w M2 ⟨-, hQ⟩
    exact hdef v M2 M2 hQ (Nat.le_refl _) (Nat.le_refl _)
  rintro w M2 ⟨e, hQ⟩ hS2
  subst e
  exact zx_go zk_L11 [1359] 20 574 (And.intro (fun _ => hq _ M2 hQ hS2) (fun c => absurd rfl c))
theorem zl_c12 (hY : zx_lay M.2.2) (hN : N ≤ 2560) (hi : i + 5 ≤ N) (hS : zl_S N f M)
    (hz : zx_Ci l E d 130 [.ref 3, .int (f (i + 1)), .int (f (i + 2))] M (fun v M1 => zx_lay M1.2.2 ∧ zx_Ci l E d 209 [.ref 132, .int (f (i + 1)), .int (f (i + 2))] M1 (fun w M2 => w = v ∧ Q v M2)))
    (hdef : ∀ v M1 M2, Q v M2 → zx_n M1 ≤ zx_n M2 → zx_sl M1 ≤ zx_sl M2 → Qo (some (.int 1)) M1)
    (hq : ∀ v M2, Q v M2 → zl_S N f M2 → zx_To l E (d + 1) 272 1359 [some (.ref 0), some (.ref 3), some (.ref 132), some (.ref 159), some (.int (nI i)), none, none] [] M2 Qo) : zx_To l E (d + 1) 272 579 [some (.ref 0), some (.ref 3), some (.ref 132), some (.ref 159), some (.int (nI i)), none, none] [] M Qo := by
  have a1 := zl_vin hN hi hS 1 1 rfl (by decide)
  have a2 := zl_vin hN hi hS 2 2 rfl (by decide)
  refine zx_go zk_L12 [592] 60 579 (And.intro (Or.inr (by decide)) (And.intro a1.1 (And.intro (Or.inr (by decide)) (And.intro a2.1 (?_)))))
  show zx_To l E (d + 1) 272 592 [some (.ref 0), some (.ref 3), some (.ref 132), some (.ref 159), some (.int (nI i)), none, none] [.int (M.1 0 (nI i + 2).toNatClampNeg), .int (M.1 0 (nI i + 1).toNatClampNeg), .ref 3] M Qo
  rw [a1.2, a2.2]
  refine zl_virt (M := M) (as := [.int (f (i + 1)), .int (f (i + 2))]) (st := []) (i := 3) (by omega) (List.all_eq_true.mp zk_L12 _ (List.mem_of_getElem? (i := 11) rfl)) (zx_lis (I := M.1) (L := M.2.1) hY 3 11 rfl rfl) (by decide : 2 = zx_np 130) (Nat.le_of_ble_eq_true rfl) (by decide : 3 ≤ zx_mL 130) hS hz ?_ ?_
  · rintro v M1 ⟨-, g⟩
    obtain ⟨r, M2, ⟨w, -, -, hQ⟩, -, hZ⟩ := g
    exact hdef v M1 M2 hQ hZ.1 hZ.2.1
  rintro v M1 ⟨hY1, g⟩ hS1
  have b1 := zl_vin hN hi hS1 1 1 rfl (by decide)
  have b2 := zl_vin hN hi hS1 2 2 rfl (by decide)
  refine zx_go zk_L12 [608] 60 595 (And.intro (Or.inr (by decide)) (And.intro b1.1 (And.intro (Or.inr (by decide)) (And.intro b2.1 (?_)))))
  show zx_To l E (d + 1) 272 608 [some (.ref 0), some (.ref 3), some (.ref 132), some (.ref 159), some (.int (nI i)), none, none] [.int (M1.1 0 (nI i + 2).toNatClampNeg), .int (M1.1 0 (nI i + 1).toNatClampNeg), .ref 132, .int v] M1 Qo
  rw [b1.2, b2.2]
  refine zl_virt (M := M1) (as := [.int (f (i + 1)), .int (f (i + 2))]) (st := [.int v]) (i := 132) (by omega) (List.all_eq_true.mp zk_L12 _ (List.mem_of_getElem? (i := 23) rfl)) (zx_lis (I := M1.1) (L := M1.2.1) hY1 132 12 rfl rfl) (by decide : 2 = zx_np 209) (Nat.le_of_ble_eq_true rfl) (by decide : 3 ≤ zx_mL 209) hS1 g ?_ ?_
  · rintro w M2 ⟨-, hQ⟩
    exact hdef v M2 M2 hQ (Nat.le_refl _) (Nat.le_refl _)
  rintro w M2 ⟨e, hQ⟩ hS2
  subst e
  exact zx_go zk_L12 [1359] 20 611 (And.intro (fun _ => hq _ M2 hQ hS2) (fun c => absurd rfl c))
theorem zl_c13 (hY : zx_lay M.2.2) (hN : N ≤ 2560) (hi : i + 5 ≤ N) (hS : zl_S N f M)
    (hz : zx_Ci l E d 131 [.ref 3, .int (f (i + 1))] M (fun v M1 => zx_lay M1.2.2 ∧ zx_Ci l E d 212 [.ref 132, .int (f (i + 1))] M1 (fun w M2 => w = v ∧ Q v M2)))
    (hdef : ∀ v M1 M2, Q v M2 → zx_n M1 ≤ zx_n M2 → zx_sl M1 ≤ zx_sl M2 → Qo (some (.int 1)) M1)
    (hq : ∀ v M2, Q v M2 → zl_S N f M2 → zx_To l E (d + 1) 272 1359 [some (.ref 0), some (.ref 3), some (.ref 132), some (.ref 159), some (.int (nI i)), none, none] [] M2 Qo) : zx_To l E (d + 1) 272 616 [some (.ref 0), some (.ref 3), some (.ref 132), some (.ref 159), some (.int (nI i)), none, none] [] M Qo := by
  have a1 := zl_vin hN hi hS 1 1 rfl (by decide)
  refine zx_go zk_L13 [623] 60 616 (And.intro (Or.inr (by decide)) (And.intro a1.1 (?_)))
  show zx_To l E (d + 1) 272 623 [some (.ref 0), some (.ref 3), some (.ref 132), some (.ref 159), some (.int (nI i)), none, none] [.int (M.1 0 (nI i + 1).toNatClampNeg), .ref 3] M Qo
  rw [a1.2]
  refine zl_virt (M := M) (as := [.int (f (i + 1))]) (st := []) (i := 3) (by omega) (List.all_eq_true.mp zk_L13 _ (List.mem_of_getElem? (i := 6) rfl)) (zx_lis (I := M.1) (L := M.2.1) hY 3 11 rfl rfl) (by decide : 1 = zx_np 131) (Nat.le_of_ble_eq_true rfl) (by decide : 2 ≤ zx_mL 131) hS hz ?_ ?_
  · rintro v M1 ⟨-, g⟩
    obtain ⟨r, M2, ⟨w, -, -, hQ⟩, -, hZ⟩ := g
    exact hdef v M1 M2 hQ hZ.1 hZ.2.1
  rintro v M1 ⟨hY1, g⟩ hS1
  have b1 := zl_vin hN hi hS1 1 1 rfl (by decide)
  refine zx_go zk_L13 [633] 60 626 (And.intro (Or.inr (by decide)) (And.intro b1.1 (?_)))
  show zx_To l E (d + 1) 272 633 [some (.ref 0), some (.ref 3), some (.ref 132), some (.ref 159), some (.int (nI i)), none, none] [.int (M1.1 0 (nI i + 1).toNatClampNeg), .ref 132, .int v] M1 Qo
  rw [b1.2]
  refine zl_virt (M := M1) (as := [.int (f (i + 1))]) (st := [.int v]) (i := 132) (by omega) (List.all_eq_true.mp zk_L13 _ (List.mem_of_getElem? (i := 13) rfl)) (zx_lis (I := M1.1) (L := M1.2.1) hY1 132 12 rfl rfl) (by decide : 1 = zx_np 212) (Nat.le_of_ble_eq_true rfl) (by decide : 2 ≤ zx_mL 212) hS1 g ?_ ?_
  · rintro w M2 ⟨-, hQ⟩
    exact hdef v M2 M2 hQ (Nat.le_refl _) (Nat.le_refl _)
  rintro w M2 ⟨e, hQ⟩ hS2
  subst e
  exact zx_go zk_L13 [1359] 20 636 (And.intro (fun _ => hq _ M2 hQ hS2) (fun c => absurd rfl c))
theorem zl_c14 (hY : zx_lay M.2.2) (hN : N ≤ 2560) (hi : i + 5 ≤ N) (hS : zl_S N f M)
    (hz : zx_Ci l E d 132 [.ref 3, .int (f (i + 1)), .int (f (i + 2))] M (fun v M1 => zx_lay M1.2.2 ∧ zx_Ci l E d 214 [.ref 132, .int (f (i + 1)), .int (f (i + 2))] M1 (fun w M2 => w = v ∧ Q v M2)))
    (hdef : ∀ v M1 M2, Q v M2 → zx_n M1 ≤ zx_n M2 → zx_sl M1 ≤ zx_sl M2 → Qo (some (.int 1)) M1)
    (hq : ∀ v M2, Q v M2 → zl_S N f M2 → zx_To l E (d + 1) 272 1359 [some (.ref 0), some (.ref 3), some (.ref 132), some (.ref 159), some (.int (nI i)), none, none] [] M2 Qo) : zx_To l E (d + 1) 272 641 [some (.ref 0), some (.ref 3), some (.ref 132), some (.ref 159), some (.int (nI i)), none, none] [] M Qo := by
  have a1 := zl_vin hN hi hS 1 1 rfl (by decide)
  have a2 := zl_vin hN hi hS 2 2 rfl (by decide)
  refine zx_go zk_L14 [654] 60 641 (And.intro (Or.inr (by decide)) (And.intro a1.1 (And.intro (Or.inr (by decide)) (And.intro a2.1 (?_)))))
  show zx_To l E (d + 1) 272 654 [some (.ref 0), some (.ref 3), some (.ref 132), some (.ref 159), some (.int (nI i)), none, none] [.int (M.1 0 (nI i + 2).toNatClampNeg), .int (M.1 0 (nI i + 1).toNatClampNeg), .ref 3] M Qo
  rw [a1.2, a2.2]
  refine zl_virt (M := M) (as := [.int (f (i + 1)), .int (f (i + 2))]) (st := []) (i := 3) (by omega) (List.all_eq_true.mp zk_L14 _ (List.mem_of_getElem? (i := 11) rfl)) (zx_lis (I := M.1) (L := M.2.1) hY 3 11 rfl rfl) (by decide : 2 = zx_np 132) (Nat.le_of_ble_eq_true rfl) (by decide : 3 ≤ zx_mL 132) hS hz ?_ ?_
  · rintro v M1 ⟨-, g⟩
    obtain ⟨r, M2, ⟨w, -, -, hQ⟩, -, hZ⟩ := g
    exact hdef v M1 M2 hQ hZ.1 hZ.2.1
  rintro v M1 ⟨hY1, g⟩ hS1
  have b1 := zl_vin hN hi hS1 1 1 rfl (by decide)
  have b2 := zl_vin hN hi hS1 2 2 rfl (by decide)
  refine zx_go zk_L14 [670] 60 657 (And.intro (Or.inr (by decide)) (And.intro b1.1 (And.intro (Or.inr (by decide)) (And.intro b2.1 (?_)))))
  show zx_To l E (d + 1) 272 670 [some (.ref 0), some (.ref 3), some (.ref 132), some (.ref 159), some (.int (nI i)), none, none] [.int (M1.1 0 (nI i + 2).toNatClampNeg), .int (M1.1 0 (nI i + 1).toNatClampNeg), .ref 132, .int v] M1 Qo
  rw [b1.2, b2.2]
  refine zl_virt (M := M1) (as := [.int (f (i + 1)), .int (f (i + 2))]) (st := [.int v]) (i := 132) (by omega) (List.all_eq_true.mp zk_L14 _ (List.mem_of_getElem? (i := 23) rfl)) (zx_lis (I := M1.1) (L := M1.2.1) hY1 132 12 rfl rfl) (by decide : 2 = zx_np 214) (Nat.le_of_ble_eq_true rfl) (by decide : 3 ≤ zx_mL 214) hS1 g ?_ ?_
  · rintro w M2 ⟨-, hQ⟩
    exact hdef v M2 M2 hQ (Nat.le_refl _) (Nat.le_refl _)
  rintro w M2 ⟨e, hQ⟩ hS2
  subst e
  exact zx_go zk_L14 [1359] 20 673 (And.intro (fun _ => hq _ M2 hQ hS2) (fun c => absurd rfl c))
theorem zl_c15 (hY : zx_lay M.2.2) (hN : N ≤ 2560) (hi : i + 5 ≤ N) (hS : zl_S N f M)
    (hz : zx_Ci l E d 133 [.ref 3, .int (f (i + 1)), .int (f (i + 2))] M (fun v M1 => zx_lay M1.2.2 ∧ zx_Ci l E d 215 [.ref 132, .int (f (i + 1)), .int (f (i + 2))] M1 (fun w M2 => w = v ∧ Q v M2)))
    (hdef : ∀ v M1 M2, Q v M2 → zx_n M1 ≤ zx_n M2 → zx_sl M1 ≤ zx_sl M2 → Qo (some (.int 1)) M1)
    (hq : ∀ v M2, Q v M2 → zl_S N f M2 → zx_To l E (d + 1) 272 1359 [some (.ref 0), some (.ref 3), some (.ref 132), some (.ref 159), some (.int (nI i)), none, none] [] M2 Qo) : zx_To l E (d + 1) 272 678 [some (.ref 0), some (.ref 3), some (.ref 132), some (.ref 159), some (.int (nI i)), none, none] [] M Qo := by
  have a1 := zl_vin hN hi hS 1 1 rfl (by decide)
  have a2 := zl_vin hN hi hS 2 2 rfl (by decide)
  refine zx_go zk_L15 [691] 60 678 (And.intro (Or.inr (by decide)) (And.intro a1.1 (And.intro (Or.inr (by decide)) (And.intro a2.1 (?_)))))
  show zx_To l E (d + 1) 272 691 [some (.ref 0), some (.ref 3), some (.ref 132), some (.ref 159), some (.int (nI i)), none, none] [.int (M.1 0 (nI i + 2).toNatClampNeg), .int (M.1 0 (nI i + 1).toNatClampNeg), .ref 3] M Qo
  rw [a1.2, a2.2]
  refine zl_virt (M := M) (as := [.int (f (i + 1)), .int (f (i + 2))]) (st := []) (i := 3) (by omega) (List.all_eq_true.mp zk_L15 _ (List.mem_of_getElem? (i := 11) rfl)) (zx_lis (I := M.1) (L := M.2.1) hY 3 11 rfl rfl) (by decide : 2 = zx_np 133) (Nat.le_of_ble_eq_true rfl) (by decide : 3 ≤ zx_mL 133) hS hz ?_ ?_
  · rintro v M1 ⟨-, g⟩
    obtain ⟨r, M2, ⟨w, -, -, hQ⟩, -, hZ⟩ := g
    exact hdef v M1 M2 hQ hZ.1 hZ.2.1
  rintro v M1 ⟨hY1, g⟩ hS1
  have b1 := zl_vin hN hi hS1 1 1 rfl (by decide)
  have b2 := zl_vin hN hi hS1 2 2 rfl (by decide)
  refine zx_go zk_L15 [707] 60 694 (And.intro (Or.inr (by decide)) (And.intro b1.1 (And.intro (Or.inr (by decide)) (And.intro b2.1 (?_)))))
  show zx_To l E (d + 1) 272 707 [some (.ref 0), some (.ref 3), some (.ref 132), some (.ref 159), some (.int (nI i)), none, none] [.int (M1.1 0 (nI i + 2).toNatClampNeg), .int (M1.1 0 (nI i + 1).toNatClampNeg), .ref 132, .int v] M1 Qo
  rw [b1.2, b2.2]
  refine zl_virt (M := M1) (as := [.int (f (i + 1)), .int (f (i + 2))]) (st := [.int v]) (i := 132) (by omega) (List.all_eq_true.mp zk_L15 _ (List.mem_of_getElem? (i := 23) rfl)) (zx_lis (I := M1.1) (L := M1.2.1) hY1 132 12 rfl rfl) (by decide : 2 = zx_np 215) (Nat.le_of_ble_eq_true rfl) (by decide : 3 ≤ zx_mL 215) hS1 g ?_ ?_
  · rintro w M2 ⟨-, hQ⟩
    exact hdef v M2 M2 hQ (Nat.le_refl _) (Nat.le_refl _)
  rintro w M2 ⟨e, hQ⟩ hS2
  subst e
  exact zx_go zk_L15 [1359] 20 710 (And.intro (fun _ => hq _ M2 hQ hS2) (fun c => absurd rfl c))
theorem zl_c16 (hY : zx_lay M.2.2) (hN : N ≤ 2560) (hi : i + 5 ≤ N) (hS : zl_S N f M)
    (hz : zx_Ci l E d 134 [.ref 3, .int (f (i + 1))] M (fun v M1 => zx_lay M1.2.2 ∧ zx_Ci l E d 217 [.ref 132, .int (f (i + 1))] M1 (fun w M2 => w = v ∧ Q v M2)))
    (hdef : ∀ v M1 M2, Q v M2 → zx_n M1 ≤ zx_n M2 → zx_sl M1 ≤ zx_sl M2 → Qo (some (.int 1)) M1)
    (hq : ∀ v M2, Q v M2 → zl_S N f M2 → zx_To l E (d + 1) 272 1359 [some (.ref 0), some (.ref 3), some (.ref 132), some (.ref 159), some (.int (nI i)), none, none] [] M2 Qo) : zx_To l E (d + 1) 272 715 [some (.ref 0), some (.ref 3), some (.ref 132), some (.ref 159), some (.int (nI i)), none, none] [] M Qo := by
  have a1 := zl_vin hN hi hS 1 1 rfl (by decide)
  refine zx_go zk_L16 [722] 60 715 (And.intro (Or.inr (by decide)) (And.intro a1.1 (?_)))
  show zx_To l E (d + 1) 272 722 [some (.ref 0), some (.ref 3), some (.ref 132), some (.ref 159), some (.int (nI i)), none, none] [.int (M.1 0 (nI i + 1).toNatClampNeg), .ref 3] M Qo
  rw [a1.2]
  refine zl_virt (M := M) (as := [.int (f (i + 1))]) (st := []) (i := 3) (by omega) (List.all_eq_true.mp zk_L16 _ (List.mem_of_getElem? (i := 6) rfl)) (zx_lis (I := M.1) (L := M.2.1) hY 3 11 rfl rfl) (by decide : 1 = zx_np 134) (Nat.le_of_ble_eq_true rfl) (by decide : 2 ≤ zx_mL 134) hS hz ?_ ?_
  · rintro v M1 ⟨-, g⟩
    obtain ⟨r, M2, ⟨w, -, -, hQ⟩, -, hZ⟩ := g
    exact hdef v M1 M2 hQ hZ.1 hZ.2.1
  rintro v M1 ⟨hY1, g⟩ hS1
  have b1 := zl_vin hN hi hS1 1 1 rfl (by decide)
  refine zx_go zk_L16 [732] 60 725 (And.intro (Or.inr (by decide)) (And.intro b1.1 (?_)))
  show zx_To l E (d + 1) 272 732 [some (.ref 0), some (.ref 3), some (.ref 132), some (.ref 159), some (.int (nI i)), none, none] [.int (M1.1 0 (nI i + 1).toNatClampNeg), .ref 132, .int v] M1 Qo
  rw [b1.2]
  refine zl_virt (M := M1) (as := [.int (f (i + 1))]) (st := [.int v]) (i := 132) (by omega) (List.all_eq_true.mp zk_L16 _ (List.mem_of_getElem? (i := 13) rfl)) (zx_lis (I := M1.1) (L := M1.2.1) hY1 132 12 rfl rfl) (by decide : 1 = zx_np 217) (Nat.le_of_ble_eq_true rfl) (by decide : 2 ≤ zx_mL 217) hS1 g ?_ ?_
  · rintro w M2 ⟨-, hQ⟩
    exact hdef v M2 M2 hQ (Nat.le_refl _) (Nat.le_refl _)
  rintro w M2 ⟨e, hQ⟩ hS2
  subst e
  exact zx_go zk_L16 [1359] 20 735 (And.intro (fun _ => hq _ M2 hQ hS2) (fun c => absurd rfl c))
end ZLK
