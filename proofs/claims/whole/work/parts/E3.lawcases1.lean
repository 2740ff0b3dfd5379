section ZLK
variable {l : Launch} {E : zx_E} {d N i : Nat} {f : Nat → Int32} {M : zx_M} {Q : Int32 → zx_M → Prop} {Qo : Option Value → zx_M → Prop}
theorem zl_c17 (hY : zx_lay M.2.2) (hN : N ≤ 2560) (hi : i + 5 ≤ N) (hS : zl_S N f M)
    (hz : zx_Ci l E d 135 [.ref 3] M (fun v M1 => zx_lay M1.2.2 ∧ zx_Ci l E d 218 [.ref 132] M1 (fun w M2 => w = v ∧ Q v M2)))
    (hdef : ∀ v M1 M2, Q v M2 → zx_n M1 ≤ zx_n M2 → zx_sl M1 ≤ zx_sl M2 → Qo (some (.int 1)) M1)
    (hq : ∀ v M2, Q v M2 → zl_S N f M2 → zx_To l E (d + 1) 272 1359 [some (.ref 0), some (.ref 3), some (.ref 132), some (.ref 159), some (.int (nI i)), none, none] [] M2 Qo) : zx_To l E (d + 1) 272 740 [some (.ref 0), some (.ref 3), some (.ref 132), some (.ref 159), some (.int (nI i)), none, none] [] M Qo := by
  refine zx_go zk_L17 [741] 60 740 (?_)
  show zx_To l E (d + 1) 272 741 [some (.ref 0), some (.ref 3), some (.ref 132), some (.ref 159), some (.int (nI i)), none, none] [.ref 3] M Qo
  refine zl_virt (M := M) (as := []) (st := []) (i := 3) (by omega) (List.all_eq_true.mp zk_L17 _ (List.mem_of_getElem? (i := 1) rfl)) (zx_lis (I := M.1) (L := M.2.1) hY 3 11 rfl rfl) (by decide : 0 = zx_np 135) (Nat.le_of_ble_eq_true rfl) (by decide : 1 ≤ zx_mL 135) hS hz ?_ ?_
  · rintro v M1 ⟨-, g⟩
    obtain ⟨r, M2, ⟨w, -, -, hQ⟩, -, hZ⟩ := g
    exact hdef v M1 M2 hQ hZ.1 hZ.2.1
  rintro v M1 ⟨hY1, g⟩ hS1
  refine zx_go zk_L17 [745] 60 744 (?_)
  show zx_To l E (d + 1) 272 745 [some (.ref 0), some (.ref 3), some (.ref 132), some (.ref 159), some (.int (nI i)), none, none] [.ref 132, .int v] M1 Qo
  refine zl_virt (M := M1) (as := []) (st := [.int v]) (i := 132) (by omega) (List.all_eq_true.mp zk_L17 _ (List.mem_of_getElem? (i := 3) rfl)) (zx_lis (I := M1.1) (L := M1.2.1) hY1 132 12 rfl rfl) (by decide : 0 = zx_np 218) (Nat.le_of_ble_eq_true rfl) (by decide : 1 ≤ zx_mL 218) hS1 g ?_ ?_
  · rintro w M2 ⟨-, hQ⟩
    exact hdef v M2 M2 hQ (Nat.le_refl _) (Nat.le_refl _)
  rintro w M2 ⟨e, hQ⟩ hS2
  subst e
  exact zx_go zk_L17 [1359] 20 748 (And.intro (fun _ => hq _ M2 hQ hS2) (fun c => absurd rfl c))
theorem zl_c18 (hY : zx_lay M.2.2) (hN : N ≤ 2560) (hi : i + 5 ≤ N) (hS : zl_S N f M)
    (hz : zx_Ci l E d 136 [.ref 3] M (fun v M1 => zx_lay M1.2.2 ∧ zx_Ci l E d 230 [.ref 132] M1 (fun w M2 => w = v ∧ Q v M2)))
    (hdef : ∀ v M1 M2, Q v M2 → zx_n M1 ≤ zx_n M2 → zx_sl M1 ≤ zx_sl M2 → Qo (some (.int 1)) M1)
    (hq : ∀ v M2, Q v M2 → zl_S N f M2 → zx_To l E (d + 1) 272 1359 [some (.ref 0), some (.ref 3), some (.ref 132), some (.ref 159), some (.int (nI i)), none, none] [] M2 Qo) : zx_To l E (d + 1) 272 753 [some (.ref 0), some (.ref 3), some (.ref 132), some (.ref 159), some (.int (nI i)), none, none] [] M Qo := by
  refine zx_go zk_L18 [754] 60 753 (?_)
  show zx_To l E (d + 1) 272 754 [some (.ref 0), some (.ref 3), some (.ref 132), some (.ref 159), some (.int (nI i)), none, none] [.ref 3] M Qo
  refine zl_virt (M := M) (as := []) (st := []) (i := 3) (by omega) (List.all_eq_true.mp zk_L18 _ (List.mem_of_getElem? (i := 1) rfl)) (zx_lis (I := M.1) (L := M.2.1) hY 3 11 rfl rfl) (by decide : 0 = zx_np 136) (Nat.le_of_ble_eq_true rfl) (by decide : 1 ≤ zx_mL 136) hS hz ?_ ?_
  · rintro v M1 ⟨-, g⟩
    obtain ⟨r, M2, ⟨w, -, -, hQ⟩, -, hZ⟩ := g
    exact hdef v M1 M2 hQ hZ.1 hZ.2.1
  rintro v M1 ⟨hY1, g⟩ hS1
  refine zx_go zk_L18 [758] 60 757 (?_)
  show zx_To l E (d + 1) 272 758 [some (.ref 0), some (.ref 3), some (.ref 132), some (.ref 159), some (.int (nI i)), none, none] [.ref 132, .int v] M1 Qo
  refine zl_virt (M := M1) (as := []) (st := [.int v]) (i := 132) (by omega) (List.all_eq_true.mp zk_L18 _ (List.mem_of_getElem? (i := 3) rfl)) (zx_lis (I := M1.1) (L := M1.2.1) hY1 132 12 rfl rfl) (by decide : 0 = zx_np 230) (Nat.le_of_ble_eq_true rfl) (by decide : 1 ≤ zx_mL 230) hS1 g ?_ ?_
  · rintro w M2 ⟨-, hQ⟩
    exact hdef v M2 M2 hQ (Nat.le_refl _) (Nat.le_refl _)
  rintro w M2 ⟨e, hQ⟩ hS2
  subst e
  exact zx_go zk_L18 [1359] 20 761 (And.intro (fun _ => hq _ M2 hQ hS2) (fun c => absurd rfl c))
theorem zl_c19 (hY : zx_lay M.2.2) (hN : N ≤ 2560) (hi : i + 5 ≤ N) (hS : zl_S N f M)
    (hz : zx_Ci l E d 137 [.ref 3, .long (zl_lg f i)] M (fun v M1 => zx_lay M1.2.2 ∧ zx_Ci l E d 235 [.ref 132, .long (zl_lg f i)] M1 (fun w M2 => w = v ∧ Q v M2)))
    (hdef : ∀ v M1 M2, Q v M2 → zx_n M1 ≤ zx_n M2 → zx_sl M1 ≤ zx_sl M2 → Qo (some (.int 1)) M1)
    (hq : ∀ v M2, Q v M2 → zl_S N f M2 → zx_To l E (d + 1) 272 1359 [some (.ref 0), some (.ref 3), some (.ref 132), some (.ref 159), some (.int (nI i)), none, none] [] M2 Qo) : zx_To l E (d + 1) 272 766 [some (.ref 0), some (.ref 3), some (.ref 132), some (.ref 159), some (.int (nI i)), none, none] [] M Qo := by
  have a1 := zl_vin hN hi hS 1 1 rfl (by decide)
  have a2 := zl_vin hN hi hS 2 2 rfl (by decide)
  refine zx_go zk_L19 [789] 60 766 (And.intro (Or.inr (by decide)) (And.intro a1.1 (And.intro (Or.inr (by decide)) (And.intro a2.1 (?_)))))
  show zx_To l E (d + 1) 272 789 [some (.ref 0), some (.ref 3), some (.ref 132), some (.ref 159), some (.int (nI i)), none, none] [.long ((M.1 0 (nI i + 1).toNatClampNeg).toInt64 <<< ((32 : Int32).toInt64 &&& 63) ||| (M.1 0 (nI i + 2).toNatClampNeg).toInt64 &&& (4294967295 : Int64)), .ref 3] M Qo
  rw [a1.2, a2.2]
  refine zl_virt (M := M) (as := [.long (zl_lg f i)]) (st := []) (i := 3) (by omega) (List.all_eq_true.mp zk_L19 _ (List.mem_of_getElem? (i := 18) rfl)) (zx_lis (I := M.1) (L := M.2.1) hY 3 11 rfl rfl) (by decide : 1 = zx_np 137) (Nat.le_of_ble_eq_true rfl) (by decide : 3 ≤ zx_mL 137) hS hz ?_ ?_
  · rintro v M1 ⟨-, g⟩
    obtain ⟨r, M2, ⟨w, -, -, hQ⟩, -, hZ⟩ := g
    exact hdef v M1 M2 hQ hZ.1 hZ.2.1
  rintro v M1 ⟨hY1, g⟩ hS1
  have b1 := zl_vin hN hi hS1 1 1 rfl (by decide)
  have b2 := zl_vin hN hi hS1 2 2 rfl (by decide)
  refine zx_go zk_L19 [815] 60 792 (And.intro (Or.inr (by decide)) (And.intro b1.1 (And.intro (Or.inr (by decide)) (And.intro b2.1 (?_)))))
  show zx_To l E (d + 1) 272 815 [some (.ref 0), some (.ref 3), some (.ref 132), some (.ref 159), some (.int (nI i)), none, none] [.long ((M1.1 0 (nI i + 1).toNatClampNeg).toInt64 <<< ((32 : Int32).toInt64 &&& 63) ||| (M1.1 0 (nI i + 2).toNatClampNeg).toInt64 &&& (4294967295 : Int64)), .ref 132, .int v] M1 Qo
  rw [b1.2, b2.2]
  refine zl_virt (M := M1) (as := [.long (zl_lg f i)]) (st := [.int v]) (i := 132) (by omega) (List.all_eq_true.mp zk_L19 _ (List.mem_of_getElem? (i := 37) rfl)) (zx_lis (I := M1.1) (L := M1.2.1) hY1 132 12 rfl rfl) (by decide : 1 = zx_np 235) (Nat.le_of_ble_eq_true rfl) (by decide : 3 ≤ zx_mL 235) hS1 g ?_ ?_
  · rintro w M2 ⟨-, hQ⟩
    exact hdef v M2 M2 hQ (Nat.le_refl _) (Nat.le_refl _)
  rintro w M2 ⟨e, hQ⟩ hS2
  subst e
  exact zx_go zk_L19 [1359] 20 818 (And.intro (fun _ => hq _ M2 hQ hS2) (fun c => absurd rfl c))
theorem zl_c20 (hY : zx_lay M.2.2) (hN : N ≤ 2560) (hi : i + 5 ≤ N) (hS : zl_S N f M)
    (hz : zx_Ci l E d 138 [.ref 3, .long (zl_lg f i)] M (fun v M1 => zx_lay M1.2.2 ∧ zx_Ci l E d 236 [.ref 132, .long (zl_lg f i)] M1 (fun w M2 => w = v ∧ Q v M2)))
    (hdef : ∀ v M1 M2, Q v M2 → zx_n M1 ≤ zx_n M2 → zx_sl M1 ≤ zx_sl M2 → Qo (some (.int 1)) M1)
    (hq : ∀ v M2, Q v M2 → zl_S N f M2 → zx_To l E (d + 1) 272 1359 [some (.ref 0), some (.ref 3), some (.ref 132), some (.ref 159), some (.int (nI i)), none, none] [] M2 Qo) : zx_To l E (d + 1) 272 823 [some (.ref 0), some (.ref 3), some (.ref 132), some (.ref 159), some (.int (nI i)), none, none] [] M Qo := by
  have a1 := zl_vin hN hi hS 1 1 rfl (by decide)
  have a2 := zl_vin hN hi hS 2 2 rfl (by decide)
  refine zx_go zk_L20 [846] 60 823 (And.intro (Or.inr (by decide)) (And.intro a1.1 (And.intro (Or.inr (by decide)) (And.intro a2.1 (?_)))))
  show zx_To l E (d + 1) 272 846 [some (.ref 0), some (.ref 3), some (.ref 132), some (.ref 159), some (.int (nI i)), none, none] [.long ((M.1 0 (nI i + 1).toNatClampNeg).toInt64 <<< ((32 : Int32).toInt64 &&& 63) ||| (M.1 0 (nI i + 2).toNatClampNeg).toInt64 &&& (4294967295 : Int64)), .ref 3] M Qo
  rw [a1.2, a2.2]
  refine zl_virt (M := M) (as := [.long (zl_lg f i)]) (st := []) (i := 3) (by omega) (List.all_eq_true.mp zk_L20 _ (List.mem_of_getElem? (i := 18) rfl)) (zx_lis (I := M.1) (L := M.2.1) hY 3 11 rfl rfl) (by decide : 1 = zx_np 138) (Nat.le_of_ble_eq_true rfl) (by decide : 3 ≤ zx_mL 138) hS hz ?_ ?_
  · rintro v M1 ⟨-, g⟩
    obtain ⟨r, M2, ⟨w, -, -, hQ⟩, -, hZ⟩ := g
    exact hdef v M1 M2 hQ hZ.1 hZ.2.1
  rintro v M1 ⟨hY1, g⟩ hS1
  have b1 := zl_vin hN hi hS1 1 1 rfl (by decide)
  have b2 := zl_vin hN hi hS1 2 2 rfl (by decide)
  refine zx_go zk_L20 [872] 60 849 (And.intro (Or.inr (by decide)) (And.intro b1.1 (And.intro (Or.inr (by decide)) (And.intro b2.1 (?_)))))
  show zx_To l E (d + 1) 272 872 [some (.ref 0), some (.ref 3), some (.ref 132), some (.ref 159), some (.int (nI i)), none, none] [.long ((M1.1 0 (nI i + 1).toNatClampNeg).toInt64 <<< ((32 : Int32).toInt64 &&& 63) ||| (M1.1 0 (nI i + 2).toNatClampNeg).toInt64 &&& (4294967295 : Int64)), .ref 132, .int v] M1 Qo
  rw [b1.2, b2.2]
  refine zl_virt (M := M1) (as := [.long (zl_lg f i)]) (st := [.int v]) (i := 132) (by omega) (List.all_eq_true.mp zk_L20 _ (List.mem_of_getElem? (i := 37) rfl)) (zx_lis (I := M1.1) (L := M1.2.1) hY1 132 12 rfl rfl) (by decide : 1 = zx_np 236) (Nat.le_of_ble_eq_true rfl) (by decide : 3 ≤ zx_mL 236) hS1 g ?_ ?_
  · rintro w M2 ⟨-, hQ⟩
    exact hdef v M2 M2 hQ (Nat.le_refl _) (Nat.le_refl _)
  rintro w M2 ⟨e, hQ⟩ hS2
  subst e
  exact zx_go zk_L20 [1359] 20 875 (And.intro (fun _ => hq _ M2 hQ hS2) (fun c => absurd rfl c))
theorem zl_c21 (hY : zx_lay M.2.2) (hN : N ≤ 2560) (hi : i + 5 ≤ N) (hS : zl_S N f M)
    (hz : zx_Ci l E d 139 [.ref 3] M (fun v M1 => zx_lay M1.2.2 ∧ zx_Ci l E d 237 [.ref 132] M1 (fun w M2 => w = v ∧ Q v M2)))
    (hdef : ∀ v M1 M2, Q v M2 → zx_n M1 ≤ zx_n M2 → zx_sl M1 ≤ zx_sl M2 → Qo (some (.int 1)) M1)
    (hq : ∀ v M2, Q v M2 → zl_S N f M2 → zx_To l E (d + 1) 272 1359 [some (.ref 0), some (.ref 3), some (.ref 132), some (.ref 159), some (.int (nI i)), none, none] [] M2 Qo) : zx_To l E (d + 1) 272 880 [some (.ref 0), some (.ref 3), some (.ref 132), some (.ref 159), some (.int (nI i)), none, none] [] M Qo := by
  refine zx_go zk_L21 [881] 60 880 (?_)
  show zx_To l E (d + 1) 272 881 [some (.ref 0), some (.ref 3), some (.ref 132), some (.ref 159), some (.int (nI i)), none, none] [.ref 3] M Qo
  refine zl_virt (M := M) (as := []) (st := []) (i := 3) (by omega) (List.all_eq_true.mp zk_L21 _ (List.mem_of_getElem? (i := 1) rfl)) (zx_lis (I := M.1) (L := M.2.1) hY 3 11 rfl rfl) (by decide : 0 = zx_np 139) (Nat.le_of_ble_eq_true rfl) (by decide : 1 ≤ zx_mL 139) hS hz ?_ ?_
  · rintro v M1 ⟨-, g⟩
    obtain ⟨r, M2, ⟨w, -, -, hQ⟩, -, hZ⟩ := g
    exact hdef v M1 M2 hQ hZ.1 hZ.2.1
  rintro v M1 ⟨hY1, g⟩ hS1
  refine zx_go zk_L21 [885] 60 884 (?_)
  show zx_To l E (d + 1) 272 885 [some (.ref 0), some (.ref 3), some (.ref 132), some (.ref 159), some (.int (nI i)), none, none] [.ref 132, .int v] M1 Qo
  refine zl_virt (M := M1) (as := []) (st := [.int v]) (i := 132) (by omega) (List.all_eq_true.mp zk_L21 _ (List.mem_of_getElem? (i := 3) rfl)) (zx_lis (I := M1.1) (L := M1.2.1) hY1 132 12 rfl rfl) (by decide : 0 = zx_np 237) (Nat.le_of_ble_eq_true rfl) (by decide : 1 ≤ zx_mL 237) hS1 g ?_ ?_
  · rintro w M2 ⟨-, hQ⟩
    exact hdef v M2 M2 hQ (Nat.le_refl _) (Nat.le_refl _)
  rintro w M2 ⟨e, hQ⟩ hS2
  subst e
  exact zx_go zk_L21 [1359] 20 888 (And.intro (fun _ => hq _ M2 hQ hS2) (fun c => absurd rfl c))
theorem zl_c22 (hY : zx_lay M.2.2) (hN : N ≤ 2560) (hi : i + 5 ≤ N) (hS : zl_S N f M)
    (hz : zx_Ci l E d 140 [.ref 3, .int (f (i + 1)), .int (f (i + 2))] M (fun v M1 => zx_lay M1.2.2 ∧ zx_Ci l E d 238 [.ref 132, .int (f (i + 1)), .int (f (i + 2))] M1 (fun w M2 => w = v ∧ Q v M2)))
    (hdef : ∀ v M1 M2, Q v M2 → zx_n M1 ≤ zx_n M2 → zx_sl M1 ≤ zx_sl M2 → Qo (some (.int 1)) M1)
    (hq : ∀ v M2, Q v M2 → zl_S N f M2 → zx_To l E (d + 1) 272 1359 [some (.ref 0), some (.ref 3), some (.ref 132), some (.ref 159), some (.int (nI i)), none, none] [] M2 Qo) : zx_To l E (d + 1) 272 893 [some (.ref 0), some (.ref 3), some (.ref 132), some (.ref 159), some (.int (nI i)), none, none] [] M Qo := by
  have a1 := zl_vin hN hi hS 1 1 rfl (by decide)
  have a2 := zl_vin hN hi hS 2 2 rfl (by decide)
  refine zx_go zk_L22 [906] 60 893 (And.intro (Or.inr (by decide)) (And.intro a1.1 (And.intro (Or.inr (by decide)) (And.intro a2.1 (?_)))))
  show zx_To l E (d + 1) 272 906 [some (.ref 0), some (.ref 3), some (.ref 132), some (.ref 159), some (.int (nI i)), none, none] [.int (M.1 0 (nI i + 2).toNatClampNeg), .int (M.1 0 (nI i + 1).toNatClampNeg), .ref 3] M Qo
  rw [a1.2, a2.2]
  refine zl_virt (M := M) (as := [.int (f (i + 1)), .int (f (i + 2))]) (st := []) (i := 3) (by omega) (List.all_eq_true.mp zk_L22 _ (List.mem_of_getElem? (i := 11) rfl)) (zx_lis (I := M.1) (L := M.2.1) hY 3 11 rfl rfl) (by decide : 2 = zx_np 140) (Nat.le_of_ble_eq_true rfl) (by decide : 3 ≤ zx_mL 140) hS hz ?_ ?_
  · rintro v M1 ⟨-, g⟩
    obtain ⟨r, M2, ⟨w, -, -, hQ⟩, -, hZ⟩ := g
    exact hdef v M1 M2 hQ hZ.1 hZ.2.1
  rintro v M1 ⟨hY1, g⟩ hS1
  have b1 := zl_vin hN hi hS1 1 1 rfl (by decide)
  have b2 := zl_vin hN hi hS1 2 2 rfl (by decide)
  refine zx_go zk_L22 [922] 60 909 (And.intro (Or.inr (by decide)) (And.intro b1.1 (And.intro (Or.inr (by decide)) (And.intro b2.1 (?_)))))
  show zx_To l E (d + 1) 272 922 [some (.ref 0), some (.ref 3), some (.ref 132), some (.ref 159), some (.int (nI i)), none, none] [.int (M1.1 0 (nI i + 2).toNatClampNeg), .int (M1.1 0 (nI i + 1).toNatClampNeg), .ref 132, .int v] M1 Qo
  rw [b1.2, b2.2]
  refine zl_virt (M := M1) (as := [.int (f (i + 1)), .int (f (i + 2))]) (st := [.int v]) (i := 132) (by omega) (List.all_eq_true.mp zk_L22 _ (List.mem_of_getElem? (i := 23) rfl)) (zx_lis (I := M1.1) (L := M1.2.1) hY1 132 12 rfl rfl) (by decide : 2 = zx_np 238) (Nat.le_of_ble_eq_true rfl) (by decide : 3 ≤ zx_mL 238) hS1 g ?_ ?_
  · rintro w M2 ⟨-, hQ⟩
    exact hdef v M2 M2 hQ (Nat.le_refl _) (Nat.le_refl _)
  rintro w M2 ⟨e, hQ⟩ hS2
  subst e
  exact zx_go zk_L22 [1359] 20 925 (And.intro (fun _ => hq _ M2 hQ hS2) (fun c => absurd rfl c))
theorem zl_c23 (hY : zx_lay M.2.2) (hN : N ≤ 2560) (hi : i + 5 ≤ N) (hS : zl_S N f M)
    (hz : zx_Ci l E d 141 [.ref 3] M (fun v M1 => zx_lay M1.2.2 ∧ zx_Ci l E d 240 [.ref 132] M1 (fun w M2 => w = v ∧ Q v M2)))
    (hdef : ∀ v M1 M2, Q v M2 → zx_n M1 ≤ zx_n M2 → zx_sl M1 ≤ zx_sl M2 → Qo (some (.int 1)) M1)
    (hq : ∀ v M2, Q v M2 → zl_S N f M2 → zx_To l E (d + 1) 272 1359 [some (.ref 0), some (.ref 3), some (.ref 132), some (.ref 159), some (.int (nI i)), none, none] [] M2 Qo) : zx_To l E (d + 1) 272 930 [some (.ref 0), some (.ref 3), some (.ref 132), some (.ref 159), some (.int (nI i)), none, none] [] M Qo := by
  refine zx_go zk_L23 [931] 60 930 (?_)
  show zx_To l E (d + 1) 272 931 [some (.ref 0), some (.ref 3), some (.ref 132), some (.ref 159), some (.int (nI i)), none, none] [.ref 3] M Qo
  refine zl_virt (M := M) (as := []) (st := []) (i := 3) (by omega) (List.all_eq_true.mp zk_L23 _ (List.mem_of_getElem? (i := 1) rfl)) (zx_lis (I := M.1) (L := M.2.1) hY 3 11 rfl rfl) (by decide : 0 = zx_np 141) (Nat.le_of_ble_eq_true rfl) (by decide : 1 ≤ zx_mL 141) hS hz ?_ ?_
  · rintro v M1 ⟨-, g⟩
    obtain ⟨r, M2, ⟨w, -, -, hQ⟩, -, hZ⟩ := g
    exact hdef v M1 M2 hQ hZ.1 hZ.2.1
  rintro v M1 ⟨hY1, g⟩ hS1
  refine zx_go zk_L23 [935] 60 934 (?_)
  show zx_To l E (d + 1) 272 935 [some (.ref 0), some (.ref 3), some (.ref 132), some (.ref 159), some (.int (nI i)), none, none] [.ref 132, .int v] M1 Qo
  refine zl_virt (M := M1) (as := []) (st := [.int v]) (i := 132) (by omega) (List.all_eq_true.mp zk_L23 _ (List.mem_of_getElem? (i := 3) rfl)) (zx_lis (I := M1.1) (L := M1.2.1) hY1 132 12 rfl rfl) (by decide : 0 = zx_np 240) (Nat.le_of_ble_eq_true rfl) (by decide : 1 ≤ zx_mL 240) hS1 g ?_ ?_
  · rintro w M2 ⟨-, hQ⟩
    exact hdef v M2 M2 hQ (Nat.le_refl _) (Nat.le_refl _)
  rintro w M2 ⟨e, hQ⟩ hS2
  subst e
  exact zx_go zk_L23 [1359] 20 938 (And.intro (fun _ => hq _ M2 hQ hS2) (fun c => absurd rfl c))
theorem zl_c24 (hY : zx_lay M.2.2) (hN : N ≤ 2560) (hi : i + 5 ≤ N) (hS : zl_S N f M)
    (hz : zx_Ci l E d 142 [.ref 3, .long (zl_lg f i)] M (fun v M1 => zx_lay M1.2.2 ∧ zx_Ci l E d 241 [.ref 132, .long (zl_lg f i)] M1 (fun w M2 => w = v ∧ Q v M2)))
    (hdef : ∀ v M1 M2, Q v M2 → zx_n M1 ≤ zx_n M2 → zx_sl M1 ≤ zx_sl M2 → Qo (some (.int 1)) M1)
    (hq : ∀ v M2, Q v M2 → zl_S N f M2 → zx_To l E (d + 1) 272 1359 [some (.ref 0), some (.ref 3), some (.ref 132), some (.ref 159), some (.int (nI i)), none, none] [] M2 Qo) : zx_To l E (d + 1) 272 943 [some (.ref 0), some (.ref 3), some (.ref 132), some (.ref 159), some (.int (nI i)), none, none] [] M Qo := by
  have a1 := zl_vin hN hi hS 1 1 rfl (by decide)
  have a2 := zl_vin hN hi hS 2 2 rfl (by decide)
  refine zx_go zk_L24 [966] 60 943 (And.intro (Or.inr (by decide)) (And.intro a1.1 (And.intro (Or.inr (by decide)) (And.intro a2.1 (?_)))))
  show zx_To l E (d + 1) 272 966 [some (.ref 0), some (.ref 3), some (.ref 132), some (.ref 159), some (.int (nI i)), none, none] [.long ((M.1 0 (nI i + 1).toNatClampNeg).toInt64 <<< ((32 : Int32).toInt64 &&& 63) ||| (M.1 0 (nI i + 2).toNatClampNeg).toInt64 &&& (4294967295 : Int64)), .ref 3] M Qo
  rw [a1.2, a2.2]
  refine zl_virt (M := M) (as := [.long (zl_lg f i)]) (st := []) (i := 3) (by omega) (List.all_eq_true.mp zk_L24 _ (List.mem_of_getElem? (i := 18) rfl)) (zx_lis (I := M.1) (L := M.2.1) hY 3 11 rfl rfl) (by decide : 1 = zx_np 142) (Nat.le_of_ble_eq_true rfl) (by decide : 3 ≤ zx_mL 142) hS hz ?_ ?_
  · rintro v M1 ⟨-, g⟩
    obtain ⟨r, M2, ⟨w, -, -, hQ⟩, -, hZ⟩ := g
    exact hdef v M1 M2 hQ hZ.1 hZ.2.1
  rintro v M1 ⟨hY1, g⟩ hS1
  have b1 := zl_vin hN hi hS1 1 1 rfl (by decide)
  have b2 := zl_vin hN hi hS1 2 2 rfl (by decide)
  refine zx_go zk_L24 [992] 60 969 (And.intro (Or.inr (by decide)) (And.intro b1.1 (And.intro (Or.inr (by decide)) (And.intro b2.1 (?_)))))
  show zx_To l E (d + 1) 272 992 [some (.ref 0), some (.ref 3), some (.ref 132), some (.ref 159), some (.int (nI i)), none, none] [.long ((M1.1 0 (nI i + 1).toNatClampNeg).toInt64 <<< ((32 : Int32).toInt64 &&& 63) ||| (M1.1 0 (nI i + 2).toNatClampNeg).toInt64 &&& (4294967295 : Int64)), .ref 132, .int v] M1 Qo
  rw [b1.2, b2.2]
  refine zl_virt (M := M1) (as := [.long (zl_lg f i)]) (st := [.int v]) (i := 132) (by omega) (List.all_eq_true.mp zk_L24 _ (List.mem_of_getElem? (i := 37) rfl)) (zx_lis (I := M1.1) (L := M1.2.1) hY1 132 12 rfl rfl) (by decide : 1 = zx_np 241) (Nat.le_of_ble_eq_true rfl) (by decide : 3 ≤ zx_mL 241) hS1 g ?_ ?_
  · rintro w M2 ⟨-, hQ⟩
    exact hdef v M2 M2 hQ (Nat.le_refl _) (Nat.le_refl _)
  rintro w M2 ⟨e, hQ⟩ hS2
  subst e
  exact zx_go zk_L24 [1359] 20 995 (And.intro (fun _ => hq _ M2 hQ hS2) (fun c => absurd rfl c))
theorem zl_c25 (hY : zx_lay M.2.2) (hN : N ≤ 2560) (hi : i + 5 ≤ N) (hS : zl_S N f M)
    (hz : zx_Ci l E d 143 [.ref 3, .int (f (i + 1)), .int (f (i + 2)), .int (f (i + 3))] M (fun v M1 => zx_lay M1.2.2 ∧ zx_Ci l E d 246 [.ref 132, .int (f (i + 1)), .int (f (i + 2)), .int (f (i + 3))] M1 (fun w M2 => w = v ∧ Q v M2)))
    (hdef : ∀ v M1 M2, Q v M2 → zx_n M1 ≤ zx_n M2 → zx_sl M1 ≤ zx_sl M2 → Qo (some (.int 1)) M1)
    (hq : ∀ v M2, Q v M2 → zl_S N f M2 → zx_To l E (d + 1) 272 1359 [some (.ref 0), some (.ref 3), some (.ref 132), some (.ref 159), some (.int (nI i)), none, none] [] M2 Qo) : zx_To l E (d + 1) 272 1000 [some (.ref 0), some (.ref 3), some (.ref 132), some (.ref 159), some (.int (nI i)), none, none] [] M Qo := by
  have a1 := zl_vin hN hi hS 1 1 rfl (by decide)
  have a2 := zl_vin hN hi hS 2 2 rfl (by decide)
  have a3 := zl_vin hN hi hS 3 3 rfl (by decide)
  refine zx_go zk_L25 [1019] 60 1000 (And.intro (Or.inr (by decide)) (And.intro a1.1 (And.intro (Or.inr (by decide)) (And.intro a2.1 (And.intro (Or.inr (by decide)) (And.intro a3.1 (?_)))))))
  show zx_To l E (d + 1) 272 1019 [some (.ref 0), some (.ref 3), some (.ref 132), some (.ref 159), some (.int (nI i)), none, none] [.int (M.1 0 (nI i + 3).toNatClampNeg), .int (M.1 0 (nI i + 2).toNatClampNeg), .int (M.1 0 (nI i + 1).toNatClampNeg), .ref 3] M Qo
  rw [a1.2, a2.2, a3.2]
  refine zl_virt (M := M) (as := [.int (f (i + 1)), .int (f (i + 2)), .int (f (i + 3))]) (st := []) (i := 3) (by omega) (List.all_eq_true.mp zk_L25 _ (List.mem_of_getElem? (i := 16) rfl)) (zx_lis (I := M.1) (L := M.2.1) hY 3 11 rfl rfl) (by decide : 3 = zx_np 143) (Nat.le_of_ble_eq_true rfl) (by decide : 4 ≤ zx_mL 143) hS hz ?_ ?_
  · rintro v M1 ⟨-, g⟩
    obtain ⟨r, M2, ⟨w, -, -, hQ⟩, -, hZ⟩ := g
    exact hdef v M1 M2 hQ hZ.1 hZ.2.1
  rintro v M1 ⟨hY1, g⟩ hS1
  have b1 := zl_vin hN hi hS1 1 1 rfl (by decide)
  have b2 := zl_vin hN hi hS1 2 2 rfl (by decide)
  have b3 := zl_vin hN hi hS1 3 3 rfl (by decide)
  refine zx_go zk_L25 [1041] 60 1022 (And.intro (Or.inr (by decide)) (And.intro b1.1 (And.intro (Or.inr (by decide)) (And.intro b2.1 (And.intro (Or.inr (by decide)) (And.intro b3.1 (?_)))))))
  show zx_To l E (d + 1) 272 1041 [some (.ref 0), some (.ref 3), some (.ref 132), some (.ref 159), some (.int (nI i)), none, none] [.int (M1.1 0 (nI i + 3).toNatClampNeg), .int (M1.1 0 (nI i + 2).toNatClampNeg), .int (M1.1 0 (nI i + 1).toNatClampNeg), .ref 132, .int v] M1 Qo
  rw [b1.2, b2.2, b3.2]
  refine zl_virt (M := M1) (as := [.int (f (i + 1)), .int (f (i + 2)), .int (f (i + 3))]) (st := [.int v]) (i := 132) (by omega) (List.all_eq_true.mp zk_L25 _ (List.mem_of_getElem? (i := 33) rfl)) (zx_lis (I := M1.1) (L := M1.2.1) hY1 132 12 rfl rfl) (by decide : 3 = zx_np 246) (Nat.le_of_ble_eq_true rfl) (by decide : 4 ≤ zx_mL 246) hS1 g ?_ ?_
  · rintro w M2 ⟨-, hQ⟩
    exact hdef v M2 M2 hQ (Nat.le_refl _) (Nat.le_refl _)
  rintro w M2 ⟨e, hQ⟩ hS2
  subst e
  exact zx_go zk_L25 [1359] 20 1044 (And.intro (fun _ => hq _ M2 hQ hS2) (fun c => absurd rfl c))
theorem zl_c26 (hY : zx_lay M.2.2) (hN : N ≤ 2560) (hi : i + 5 ≤ N) (hS : zl_S N f M)
    (hz : zx_Ci l E d 144 [.ref 3, .int (f (i + 1)), .int (f (i + 2))] M (fun v M1 => zx_lay M1.2.2 ∧ zx_Ci l E d 247 [.ref 132, .int (f (i + 1)), .int (f (i + 2))] M1 (fun w M2 => w = v ∧ Q v M2)))
    (hdef : ∀ v M1 M2, Q v M2 → zx_n M1 ≤ zx_n M2 → zx_sl M1 ≤ zx_sl M2 → Qo (some (.int 1)) M1)
    (hq : ∀ v M2, Q v M2 → zl_S N f M2 → zx_To l E (d + 1) 272 1359 [some (.ref 0), some (.ref 3), some (.ref 132), some (.ref 159), some (.int (nI i)), none, none] [] M2 Qo) : zx_To l E (d + 1) 272 1049 [some (.ref 0), some (.ref 3), some (.ref 132), some (.ref 159), some (.int (nI i)), none, none] [] M Qo := by
  have a1 := zl_vin hN hi hS 1 1 rfl (by decide)
  have a2 := zl_vin hN hi hS 2 2 rfl (by decide)
  refine zx_go zk_L26 [1062] 60 1049 (And.intro (Or.inr (by decide)) (And.intro a1.1 (And.intro (Or.inr (by decide)) (And.intro a2.1 (?_)))))
  show zx_To l E (d + 1) 272 1062 [some (.ref 0), some (.ref 3), some (.ref 132), some (.ref 159), some (.int (nI i)), none, none] [.int (M.1 0 (nI i + 2).toNatClampNeg), .int (M.1 0 (nI i + 1).toNatClampNeg), .ref 3] M Qo
  rw [a1.2, a2.2]
  refine zl_virt (M := M) (as := [.int (f (i + 1)), .int (f (i + 2))]) (st := []) (i := 3) (by omega) (List.all_eq_true.mp zk_L26 _ (List.mem_of_getElem? (i := 11) rfl)) (zx_lis (I := M.1) (L := M.2.1) hY 3 11 rfl rfl) (by decide : 2 = zx_np 144) (Nat.le_of_ble_eq_true rfl) (by decide : 3 ≤ zx_mL 144) hS hz ?_ ?_
  · rintro v M1 ⟨-, g⟩
    obtain ⟨r, M2, ⟨w, -, -, hQ⟩, -, hZ⟩ := g
    exact hdef v M1 M2 hQ hZ.1 hZ.2.1
  rintro v M1 ⟨hY1, g⟩ hS1
  have b1 := zl_vin hN hi hS1 1 1 rfl (by decide)
  have b2 := zl_vin hN hi hS1 2 2 rfl (by decide)
  refine zx_go zk_L26 [1078] 60 1065 (And.intro (Or.inr (by decide)) (And.intro b1.1 (And.intro (Or.inr (by decide)) (And.intro b2.1 (?_)))))
  show zx_To l E (d + 1) 272 1078 [some (.ref 0), some (.ref 3), some (.ref 132), some (.ref 159), some (.int (nI i)), none, none] [.int (M1.1 0 (nI i + 2).toNatClampNeg), .int (M1.1 0 (nI i + 1).toNatClampNeg), .ref 132, .int v] M1 Qo
  rw [b1.2, b2.2]
  refine zl_virt (M := M1) (as := [.int (f (i + 1)), .int (f (i + 2))]) (st := [.int v]) (i := 132) (by omega) (List.all_eq_true.mp zk_L26 _ (List.mem_of_getElem? (i := 23) rfl)) (zx_lis (I := M1.1) (L := M1.2.1) hY1 132 12 rfl rfl) (by decide : 2 = zx_np 247) (Nat.le_of_ble_eq_true rfl) (by decide : 3 ≤ zx_mL 247) hS1 g ?_ ?_
  · rintro w M2 ⟨-, hQ⟩
    exact hdef v M2 M2 hQ (Nat.le_refl _) (Nat.le_refl _)
  rintro w M2 ⟨e, hQ⟩ hS2
  subst e
  exact zx_go zk_L26 [1359] 20 1081 (And.intro (fun _ => hq _ M2 hQ hS2) (fun c => absurd rfl c))
theorem zl_c27 (hY : zx_lay M.2.2) (hN : N ≤ 2560) (hi : i + 5 ≤ N) (hS : zl_S N f M)
    (hz : zx_Ci l E d 145 [.ref 3, .int (f (i + 1))] M (fun v M1 => zx_lay M1.2.2 ∧ zx_Ci l E d 251 [.ref 132, .int (f (i + 1))] M1 (fun w M2 => w = v ∧ Q v M2)))
    (hdef : ∀ v M1 M2, Q v M2 → zx_n M1 ≤ zx_n M2 → zx_sl M1 ≤ zx_sl M2 → Qo (some (.int 1)) M1)
    (hq : ∀ v M2, Q v M2 → zl_S N f M2 → zx_To l E (d + 1) 272 1359 [some (.ref 0), some (.ref 3), some (.ref 132), some (.ref 159), some (.int (nI i)), none, none] [] M2 Qo) : zx_To l E (d + 1) 272 1086 [some (.ref 0), some (.ref 3), some (.ref 132), some (.ref 159), some (.int (nI i)), none, none] [] M Qo := by
  have a1 := zl_vin hN hi hS 1 1 rfl (by decide)
  refine zx_go zk_L27 [1093] 60 1086 (And.intro (Or.inr (by decide)) (And.intro a1.1 (?_)))
  show zx_To l E (d + 1) 272 1093 [some (.ref 0), some (.ref 3), some (.ref 132), some (.ref 159), some (.int (nI i)), none, none] [.int (M.1 0 (nI i + 1).toNatClampNeg), .ref 3] M Qo
  rw [a1.2]
  refine zl_virt (M := M) (as := [.int (f (i + 1))]) (st := []) (i := 3) (by omega) (List.all_eq_true.mp zk_L27 _ (List.mem_of_getElem? (i := 6) rfl)) (zx_lis (I := M.1) (L := M.2.1) hY 3 11 rfl rfl) (by decide : 1 = zx_np 145) (Nat.le_of_ble_eq_true rfl) (by decide : 2 ≤ zx_mL 145) hS hz ?_ ?_
  · rintro v M1 ⟨-, g⟩
    obtain ⟨r, M2, ⟨w, -, -, hQ⟩, -, hZ⟩ := g
    exact hdef v M1 M2 hQ hZ.1 hZ.2.1
  rintro v M1 ⟨hY1, g⟩ hS1
  have b1 := zl_vin hN hi hS1 1 1 rfl (by decide)
  refine zx_go zk_L27 [1103] 60 1096 (And.intro (Or.inr (by decide)) (And.intro b1.1 (?_)))
  show zx_To l E (d + 1) 272 1103 [some (.ref 0), some (.ref 3), some (.ref 132), some (.ref 159), some (.int (nI i)), none, none] [.int (M1.1 0 (nI i + 1).toNatClampNeg), .ref 132, .int v] M1 Qo
  rw [b1.2]
  refine zl_virt (M := M1) (as := [.int (f (i + 1))]) (st := [.int v]) (i := 132) (by omega) (List.all_eq_true.mp zk_L27 _ (List.mem_of_getElem? (i := 13) rfl)) (zx_lis (I := M1.1) (L := M1.2.1) hY1 132 12 rfl rfl) (by decide : 1 = zx_np 251) (Nat.le_of_ble_eq_true rfl) (by decide : 2 ≤ zx_mL 251) hS1 g ?_ ?_
  · rintro w M2 ⟨-, hQ⟩
    exact hdef v M2 M2 hQ (Nat.le_refl _) (Nat.le_refl _)
  rintro w M2 ⟨e, hQ⟩ hS2
  subst e
  exact zx_go zk_L27 [1359] 20 1106 (And.intro (fun _ => hq _ M2 hQ hS2) (fun c => absurd rfl c))
theorem zl_c29 (hY : zx_lay M.2.2) (hN : N ≤ 2560) (hi : i + 5 ≤ N) (hS : zl_S N f M)
    (hz : zx_Ci l E d 147 [.ref 3] M (fun v M1 => zx_lay M1.2.2 ∧ zx_Ci l E d 254 [.ref 132] M1 (fun w M2 => w = v ∧ Q v M2)))
    (hdef : ∀ v M1 M2, Q v M2 → zx_n M1 ≤ zx_n M2 → zx_sl M1 ≤ zx_sl M2 → Qo (some (.int 1)) M1)
    (hq : ∀ v M2, Q v M2 → zl_S N f M2 → zx_To l E (d + 1) 272 1359 [some (.ref 0), some (.ref 3), some (.ref 132), some (.ref 159), some (.int (nI i)), none, none] [] M2 Qo) : zx_To l E (d + 1) 272 1164 [some (.ref 0), some (.ref 3), some (.ref 132), some (.ref 159), some (.int (nI i)), none, none] [] M Qo := by
  refine zx_go zk_L29 [1165] 60 1164 (?_)
  show zx_To l E (d + 1) 272 1165 [some (.ref 0), some (.ref 3), some (.ref 132), some (.ref 159), some (.int (nI i)), none, none] [.ref 3] M Qo
  refine zl_virt (M := M) (as := []) (st := []) (i := 3) (by omega) (List.all_eq_true.mp zk_L29 _ (List.mem_of_getElem? (i := 1) rfl)) (zx_lis (I := M.1) (L := M.2.1) hY 3 11 rfl rfl) (by decide : 0 = zx_np 147) (Nat.le_of_ble_eq_true rfl) (by decide : 1 ≤ zx_mL 147) hS hz ?_ ?_
  · rintro v M1 ⟨-, g⟩
    obtain ⟨r, M2, ⟨w, -, -, hQ⟩, -, hZ⟩ := g
    exact hdef v M1 M2 hQ hZ.1 hZ.2.1
  rintro v M1 ⟨hY1, g⟩ hS1
  refine zx_go zk_L29 [1169] 60 1168 (?_)
  show zx_To l E (d + 1) 272 1169 [some (.ref 0), some (.ref 3), some (.ref 132), some (.ref 159), some (.int (nI i)), none, none] [.ref 132, .int v] M1 Qo
  refine zl_virt (M := M1) (as := []) (st := [.int v]) (i := 132) (by omega) (List.all_eq_true.mp zk_L29 _ (List.mem_of_getElem? (i := 3) rfl)) (zx_lis (I := M1.1) (L := M1.2.1) hY1 132 12 rfl rfl) (by decide : 0 = zx_np 254) (Nat.le_of_ble_eq_true rfl) (by decide : 1 ≤ zx_mL 254) hS1 g ?_ ?_
  · rintro w M2 ⟨-, hQ⟩
    exact hdef v M2 M2 hQ (Nat.le_refl _) (Nat.le_refl _)
  rintro w M2 ⟨e, hQ⟩ hS2
  subst e
  exact zx_go zk_L29 [1359] 20 1172 (And.intro (fun _ => hq _ M2 hQ hS2) (fun c => absurd rfl c))
theorem zl_c30 (hY : zx_lay M.2.2) (hN : N ≤ 2560) (hi : i + 5 ≤ N) (hS : zl_S N f M)
    (hz : zx_Ci l E d 148 [.ref 3] M (fun v M1 => zx_lay M1.2.2 ∧ zx_Ci l E d 255 [.ref 132] M1 (fun w M2 => w = v ∧ Q v M2)))
    (hdef : ∀ v M1 M2, Q v M2 → zx_n M1 ≤ zx_n M2 → zx_sl M1 ≤ zx_sl M2 → Qo (some (.int 1)) M1)
    (hq : ∀ v M2, Q v M2 → zl_S N f M2 → zx_To l E (d + 1) 272 1359 [some (.ref 0), some (.ref 3), some (.ref 132), some (.ref 159), some (.int (nI i)), none, none] [] M2 Qo) : zx_To l E (d + 1) 272 1177 [some (.ref 0), some (.ref 3), some (.ref 132), some (.ref 159), some (.int (nI i)), none, none] [] M Qo := by
  refine zx_go zk_L30 [1178] 60 1177 (?_)
  show zx_To l E (d + 1) 272 1178 [some (.ref 0), some (.ref 3), some (.ref 132), some (.ref 159), some (.int (nI i)), none, none] [.ref 3] M Qo
  refine zl_virt (M := M) (as := []) (st := []) (i := 3) (by omega) (List.all_eq_true.mp zk_L30 _ (List.mem_of_getElem? (i := 1) rfl)) (zx_lis (I := M.1) (L := M.2.1) hY 3 11 rfl rfl) (by decide : 0 = zx_np 148) (Nat.le_of_ble_eq_true rfl) (by decide : 1 ≤ zx_mL 148) hS hz ?_ ?_
  · rintro v M1 ⟨-, g⟩
    obtain ⟨r, M2, ⟨w, -, -, hQ⟩, -, hZ⟩ := g
    exact hdef v M1 M2 hQ hZ.1 hZ.2.1
  rintro v M1 ⟨hY1, g⟩ hS1
  refine zx_go zk_L30 [1182] 60 1181 (?_)
  show zx_To l E (d + 1) 272 1182 [some (.ref 0), some (.ref 3), some (.ref 132), some (.ref 159), some (.int (nI i)), none, none] [.ref 132, .int v] M1 Qo
  refine zl_virt (M := M1) (as := []) (st := [.int v]) (i := 132) (by omega) (List.all_eq_true.mp zk_L30 _ (List.mem_of_getElem? (i := 3) rfl)) (zx_lis (I := M1.1) (L := M1.2.1) hY1 132 12 rfl rfl) (by decide : 0 = zx_np 255) (Nat.le_of_ble_eq_true rfl) (by decide : 1 ≤ zx_mL 255) hS1 g ?_ ?_
  · rintro w M2 ⟨-, hQ⟩
    exact hdef v M2 M2 hQ (Nat.le_refl _) (Nat.le_refl _)
  rintro w M2 ⟨e, hQ⟩ hS2
  subst e
  exact zx_go zk_L30 [1359] 20 1185 (And.intro (fun _ => hq _ M2 hQ hS2) (fun c => absurd rfl c))
theorem zl_c31 (hY : zx_lay M.2.2) (hN : N ≤ 2560) (hi : i + 5 ≤ N) (hS : zl_S N f M)
    (hz : zx_Ci l E d 149 [.ref 3] M (fun v M1 => zx_lay M1.2.2 ∧ zx_Ci l E d 256 [.ref 132] M1 (fun w M2 => w = v ∧ Q v M2)))
    (hdef : ∀ v M1 M2, Q v M2 → zx_n M1 ≤ zx_n M2 → zx_sl M1 ≤ zx_sl M2 → Qo (some (.int 1)) M1)
    (hq : ∀ v M2, Q v M2 → zl_S N f M2 → zx_To l E (d + 1) 272 1359 [some (.ref 0), some (.ref 3), some (.ref 132), some (.ref 159), some (.int (nI i)), none, none] [] M2 Qo) : zx_To l E (d + 1) 272 1190 [some (.ref 0), some (.ref 3), some (.ref 132), some (.ref 159), some (.int (nI i)), none, none] [] M Qo := by
  refine zx_go zk_L31 [1191] 60 1190 (?_)
  show zx_To l E (d + 1) 272 1191 [some (.ref 0), some (.ref 3), some (.ref 132), some (.ref 159), some (.int (nI i)), none, none] [.ref 3] M Qo
  refine zl_virt (M := M) (as := []) (st := []) (i := 3) (by omega) (List.all_eq_true.mp zk_L31 _ (List.mem_of_getElem? (i := 1) rfl)) (zx_lis (I := M.1) (L := M.2.1) hY 3 11 rfl rfl) (by decide : 0 = zx_np 149) (Nat.le_of_ble_eq_true rfl) (by decide : 1 ≤ zx_mL 149) hS hz ?_ ?_
  · rintro v M1 ⟨-, g⟩
    obtain ⟨r, M2, ⟨w, -, -, hQ⟩, -, hZ⟩ := g
    exact hdef v M1 M2 hQ hZ.1 hZ.2.1
  rintro v M1 ⟨hY1, g⟩ hS1
  refine zx_go zk_L31 [1195] 60 1194 (?_)
  show zx_To l E (d + 1) 272 1195 [some (.ref 0), some (.ref 3), some (.ref 132), some (.ref 159), some (.int (nI i)), none, none] [.ref 132, .int v] M1 Qo
  refine zl_virt (M := M1) (as := []) (st := [.int v]) (i := 132) (by omega) (List.all_eq_true.mp zk_L31 _ (List.mem_of_getElem? (i := 3) rfl)) (zx_lis (I := M1.1) (L := M1.2.1) hY1 132 12 rfl rfl) (by decide : 0 = zx_np 256) (Nat.le_of_ble_eq_true rfl) (by decide : 1 ≤ zx_mL 256) hS1 g ?_ ?_
  · rintro w M2 ⟨-, hQ⟩
    exact hdef v M2 M2 hQ (Nat.le_refl _) (Nat.le_refl _)
  rintro w M2 ⟨e, hQ⟩ hS2
  subst e
  exact zx_go zk_L31 [1359] 20 1198 (And.intro (fun _ => hq _ M2 hQ hS2) (fun c => absurd rfl c))
theorem zl_c32 (hY : zx_lay M.2.2) (hN : N ≤ 2560) (hi : i + 5 ≤ N) (hS : zl_S N f M)
    (hz : zx_Ci l E d 150 [.ref 3, .int (f (i + 1))] M (fun v M1 => zx_lay M1.2.2 ∧ zx_Ci l E d 257 [.ref 132, .int (f (i + 1))] M1 (fun w M2 => w = v ∧ Q v M2)))
    (hdef : ∀ v M1 M2, Q v M2 → zx_n M1 ≤ zx_n M2 → zx_sl M1 ≤ zx_sl M2 → Qo (some (.int 1)) M1)
    (hq : ∀ v M2, Q v M2 → zl_S N f M2 → zx_To l E (d + 1) 272 1359 [some (.ref 0), some (.ref 3), some (.ref 132), some (.ref 159), some (.int (nI i)), none, none] [] M2 Qo) : zx_To l E (d + 1) 272 1203 [some (.ref 0), some (.ref 3), some (.ref 132), some (.ref 159), some (.int (nI i)), none, none] [] M Qo := by
  have a1 := zl_vin hN hi hS 1 1 rfl (by decide)
  refine zx_go zk_L32 [1210] 60 1203 (And.intro (Or.inr (by decide)) (And.intro a1.1 (?_)))
  show zx_To l E (d + 1) 272 1210 [some (.ref 0), some (.ref 3), some (.ref 132), some (.ref 159), some (.int (nI i)), none, none] [.int (M.1 0 (nI i + 1).toNatClampNeg), .ref 3] M Qo
  rw [a1.2]
  refine zl_virt (M := M) (as := [.int (f (i + 1))]) (st := []) (i := 3) (by omega) (List.all_eq_true.mp zk_L32 _ (List.mem_of_getElem? (i := 6) rfl)) (zx_lis (I := M.1) (L := M.2.1) hY 3 11 rfl rfl) (by decide : 1 = zx_np 150) (Nat.le_of_ble_eq_true rfl) (by decide : 2 ≤ zx_mL 150) hS hz ?_ ?_
  · rintro v M1 ⟨-, g⟩
    obtain ⟨r, M2, ⟨w, -, -, hQ⟩, -, hZ⟩ := g
    exact hdef v M1 M2 hQ hZ.1 hZ.2.1
  rintro v M1 ⟨hY1, g⟩ hS1
  have b1 := zl_vin hN hi hS1 1 1 rfl (by decide)
  refine zx_go zk_L32 [1220] 60 1213 (And.intro (Or.inr (by decide)) (And.intro b1.1 (?_)))
  show zx_To l E (d + 1) 272 1220 [some (.ref 0), some (.ref 3), some (.ref 132), some (.ref 159), some (.int (nI i)), none, none] [.int (M1.1 0 (nI i + 1).toNatClampNeg), .ref 132, .int v] M1 Qo
  rw [b1.2]
  refine zl_virt (M := M1) (as := [.int (f (i + 1))]) (st := [.int v]) (i := 132) (by omega) (List.all_eq_true.mp zk_L32 _ (List.mem_of_getElem? (i := 13) rfl)) (zx_lis (I := M1.1) (L := M1.2.1) hY1 132 12 rfl rfl) (by decide : 1 = zx_np 257) (Nat.le_of_ble_eq_true rfl) (by decide : 2 ≤ zx_mL 257) hS1 g ?_ ?_
  · rintro w M2 ⟨-, hQ⟩
    exact hdef v M2 M2 hQ (Nat.le_refl _) (Nat.le_refl _)
  rintro w M2 ⟨e, hQ⟩ hS2
  subst e
  exact zx_go zk_L32 [1359] 20 1223 (And.intro (fun _ => hq _ M2 hQ hS2) (fun c => absurd rfl c))
theorem zl_c33 (hY : zx_lay M.2.2) (hN : N ≤ 2560) (hi : i + 5 ≤ N) (hS : zl_S N f M)
    (hz : zx_Ci l E d 151 [.ref 3, .int (f (i + 1))] M (fun v M1 => zx_lay M1.2.2 ∧ zx_Ci l E d 258 [.ref 132, .int (f (i + 1))] M1 (fun w M2 => w = v ∧ Q v M2)))
    (hdef : ∀ v M1 M2, Q v M2 → zx_n M1 ≤ zx_n M2 → zx_sl M1 ≤ zx_sl M2 → Qo (some (.int 1)) M1)
    (hq : ∀ v M2, Q v M2 → zl_S N f M2 → zx_To l E (d + 1) 272 1359 [some (.ref 0), some (.ref 3), some (.ref 132), some (.ref 159), some (.int (nI i)), none, none] [] M2 Qo) : zx_To l E (d + 1) 272 1228 [some (.ref 0), some (.ref 3), some (.ref 132), some (.ref 159), some (.int (nI i)), none, none] [] M Qo := by
  have a1 := zl_vin hN hi hS 1 1 rfl (by decide)
  refine zx_go zk_L33 [1235] 60 1228 (And.intro (Or.inr (by decide)) (And.intro a1.1 (?_)))
  show zx_To l E (d + 1) 272 1235 [some (.ref 0), some (.ref 3), some (.ref 132), some (.ref 159), some (.int (nI i)), none, none] [.int (M.1 0 (nI i + 1).toNatClampNeg), .ref 3] M Qo
  rw [a1.2]
  refine zl_virt (M := M) (as := [.int (f (i + 1))]) (st := []) (i := 3) (by omega) (List.all_eq_true.mp zk_L33 _ (List.mem_of_getElem? (i := 6) rfl)) (zx_lis (I := M.1) (L := M.2.1) hY 3 11 rfl rfl) (by decide : 1 = zx_np 151) (Nat.le_of_ble_eq_true rfl) (by decide : 2 ≤ zx_mL 151) hS hz ?_ ?_
  · rintro v M1 ⟨-, g⟩
    obtain ⟨r, M2, ⟨w, -, -, hQ⟩, -, hZ⟩ := g
    exact hdef v M1 M2 hQ hZ.1 hZ.2.1
  rintro v M1 ⟨hY1, g⟩ hS1
  have b1 := zl_vin hN hi hS1 1 1 rfl (by decide)
  refine zx_go zk_L33 [1245] 60 1238 (And.intro (Or.inr (by decide)) (And.intro b1.1 (?_)))
  show zx_To l E (d + 1) 272 1245 [some (.ref 0), some (.ref 3), some (.ref 132), some (.ref 159), some (.int (nI i)), none, none] [.int (M1.1 0 (nI i + 1).toNatClampNeg), .ref 132, .int v] M1 Qo
  rw [b1.2]
  refine zl_virt (M := M1) (as := [.int (f (i + 1))]) (st := [.int v]) (i := 132) (by omega) (List.all_eq_true.mp zk_L33 _ (List.mem_of_getElem? (i := 13) rfl)) (zx_lis (I := M1.1) (L := M1.2.1) hY1 132 12 rfl rfl) (by decide : 1 = zx_np 258) (Nat.le_of_ble_eq_true rfl) (by decide : 2 ≤ zx_mL 258) hS1 g ?_ ?_
  · rintro w M2 ⟨-, hQ⟩
    exact hdef v M2 M2 hQ (Nat.le_refl _) (Nat.le_refl _)
  rintro w M2 ⟨e, hQ⟩ hS2
  subst e
  exact zx_go zk_L33 [1359] 20 1248 (And.intro (fun _ => hq _ M2 hQ hS2) (fun c => absurd rfl c))
theorem zl_c34 (hY : zx_lay M.2.2) (hN : N ≤ 2560) (hi : i + 5 ≤ N) (hS : zl_S N f M)
    (hz : zx_Ci l E d 152 [.ref 3, .int (f (i + 1))] M (fun v M1 => zx_lay M1.2.2 ∧ zx_Ci l E d 259 [.ref 132, .int (f (i + 1))] M1 (fun w M2 => w = v ∧ Q v M2)))
    (hdef : ∀ v M1 M2, Q v M2 → zx_n M1 ≤ zx_n M2 → zx_sl M1 ≤ zx_sl M2 → Qo (some (.int 1)) M1)
    (hq : ∀ v M2, Q v M2 → zl_S N f M2 → zx_To l E (d + 1) 272 1359 [some (.ref 0), some (.ref 3), some (.ref 132), some (.ref 159), some (.int (nI i)), none, none] [] M2 Qo) : zx_To l E (d + 1) 272 1253 [some (.ref 0), some (.ref 3), some (.ref 132), some (.ref 159), some (.int (nI i)), none, none] [] M Qo := by
  have a1 := zl_vin hN hi hS 1 1 rfl (by decide)
  refine zx_go zk_L34 [1260] 60 1253 (And.intro (Or.inr (by decide)) (And.intro a1.1 (?_)))
  show zx_To l E (d + 1) 272 1260 [some (.ref 0), some (.ref 3), some (.ref 132), some (.ref 159), some (.int (nI i)), none, none] [.int (M.1 0 (nI i + 1).toNatClampNeg), .ref 3] M Qo
  rw [a1.2]
  refine zl_virt (M := M) (as := [.int (f (i + 1))]) (st := []) (i := 3) (by omega) (List.all_eq_true.mp zk_L34 _ (List.mem_of_getElem? (i := 6) rfl)) (zx_lis (I := M.1) (L := M.2.1) hY 3 11 rfl rfl) (by decide : 1 = zx_np 152) (Nat.le_of_ble_eq_true rfl) (by decide : 2 ≤ zx_mL 152) hS hz ?_ ?_
  · rintro v M1 ⟨-, g⟩
    obtain ⟨r, M2, ⟨w, -, -, hQ⟩, -, hZ⟩ := g
    exact hdef v M1 M2 hQ hZ.1 hZ.2.1
  rintro v M1 ⟨hY1, g⟩ hS1
  have b1 := zl_vin hN hi hS1 1 1 rfl (by decide)
  refine zx_go zk_L34 [1270] 60 1263 (And.intro (Or.inr (by decide)) (And.intro b1.1 (?_)))
  show zx_To l E (d + 1) 272 1270 [some (.ref 0), some (.ref 3), some (.ref 132), some (.ref 159), some (.int (nI i)), none, none] [.int (M1.1 0 (nI i + 1).toNatClampNeg), .ref 132, .int v] M1 Qo
  rw [b1.2]
  refine zl_virt (M := M1) (as := [.int (f (i + 1))]) (st := [.int v]) (i := 132) (by omega) (List.all_eq_true.mp zk_L34 _ (List.mem_of_getElem? (i := 13) rfl)) (zx_lis (I := M1.1) (L := M1.2.1) hY1 132 12 rfl rfl) (by decide : 1 = zx_np 259) (Nat.le_of_ble_eq_true rfl) (by decide : 2 ≤ zx_mL 259) hS1 g ?_ ?_
  · rintro w M2 ⟨-, hQ⟩
    exact hdef v M2 M2 hQ (Nat.le_refl _) (Nat.le_refl _)
  rintro w M2 ⟨e, hQ⟩ hS2
  subst e
  exact zx_go zk_L34 [1359] 20 1273 (And.intro (fun _ => hq _ M2 hQ hS2) (fun c => absurd rfl c))
theorem zl_c35 (hY : zx_lay M.2.2) (hN : N ≤ 2560) (hi : i + 5 ≤ N) (hS : zl_S N f M)
    (hz : zx_Ci l E d 153 [.ref 3, .int (f (i + 1))] M (fun v M1 => zx_lay M1.2.2 ∧ zx_Ci l E d 262 [.ref 132, .int (f (i + 1))] M1 (fun w M2 => w = v ∧ Q v M2)))
    (hdef : ∀ v M1 M2, Q v M2 → zx_n M1 ≤ zx_n M2 → zx_sl M1 ≤ zx_sl M2 → Qo (some (.int 1)) M1)
    (hq : ∀ v M2, Q v M2 → zl_S N f M2 → zx_To l E (d + 1) 272 1359 [some (.ref 0), some (.ref 3), some (.ref 132), some (.ref 159), some (.int (nI i)), none, none] [] M2 Qo) : zx_To l E (d + 1) 272 1278 [some (.ref 0), some (.ref 3), some (.ref 132), some (.ref 159), some (.int (nI i)), none, none] [] M Qo := by
  have a1 := zl_vin hN hi hS 1 1 rfl (by decide)
  refine zx_go zk_L35 [1285] 60 1278 (And.intro (Or.inr (by decide)) (And.intro a1.1 (?_)))
  show zx_To l E (d + 1) 272 1285 [some (.ref 0), some (.ref 3), some (.ref 132), some (.ref 159), some (.int (nI i)), none, none] [.int (M.1 0 (nI i + 1).toNatClampNeg), .ref 3] M Qo
  rw [a1.2]
  refine zl_virt (M := M) (as := [.int (f (i + 1))]) (st := []) (i := 3) (by omega) (List.all_eq_true.mp zk_L35 _ (List.mem_of_getElem? (i := 6) rfl)) (zx_lis (I := M.1) (L := M.2.1) hY 3 11 rfl rfl) (by decide : 1 = zx_np 153) (Nat.le_of_ble_eq_true rfl) (by decide : 2 ≤ zx_mL 153) hS hz ?_ ?_
  · rintro v M1 ⟨-, g⟩
    obtain ⟨r, M2, ⟨w, -, -, hQ⟩, -, hZ⟩ := g
    exact hdef v M1 M2 hQ hZ.1 hZ.2.1
  rintro v M1 ⟨hY1, g⟩ hS1
  have b1 := zl_vin hN hi hS1 1 1 rfl (by decide)
  refine zx_go zk_L35 [1295] 60 1288 (And.intro (Or.inr (by decide)) (And.intro b1.1 (?_)))
  show zx_To l E (d + 1) 272 1295 [some (.ref 0), some (.ref 3), some (.ref 132), some (.ref 159), some (.int (nI i)), none, none] [.int (M1.1 0 (nI i + 1).toNatClampNeg), .ref 132, .int v] M1 Qo
  rw [b1.2]
  refine zl_virt (M := M1) (as := [.int (f (i + 1))]) (st := [.int v]) (i := 132) (by omega) (List.all_eq_true.mp zk_L35 _ (List.mem_of_getElem? (i := 13) rfl)) (zx_lis (I := M1.1) (L := M1.2.1) hY1 132 12 rfl rfl) (by decide : 1 = zx_np 262) (Nat.le_of_ble_eq_true rfl) (by decide : 2 ≤ zx_mL 262) hS1 g ?_ ?_
  · rintro w M2 ⟨-, hQ⟩
    exact hdef v M2 M2 hQ (Nat.le_refl _) (Nat.le_refl _)
  rintro w M2 ⟨e, hQ⟩ hS2
  subst e
  exact zx_go zk_L35 [1359] 20 1298 (And.intro (fun _ => hq _ M2 hQ hS2) (fun c => absurd rfl c))
end ZLK
