/-! ===== the law's loop: its head, its switch, its foot ===== -/
def zl_cs : List Nat := [200, 225, 250, 263, 324, 392, 441, 466, 491, 516, 529, 542, 579, 616, 641, 678, 715, 740, 753, 766, 823, 880, 893, 930, 943, 1000, 1049, 1086, 1111, 1164, 1177, 1190, 1203, 1228, 1253, 1278, 1303]
section ZLH
variable {l : Launch} {E : zx_E} {d N i : Nat} {f : Nat → Int32} {M : zx_M} {Qo : Option Value → zx_M → Prop}
theorem zl_end (hq : Qo (some (.int 1)) M) : zx_To l E (d + 1) 272 1365 [some (.ref 0), some (.ref 3), some (.ref 132), some (.ref 159), some (.int (nI i)), none, none] [] M Qo := zx_go zk_Le [] 5 1365 (And.intro (by decide) hq)
theorem zl_foot (hq : zx_To l E (d + 1) 272 23 [some (.ref 0), some (.ref 3), some (.ref 132), some (.ref 159), some (.int (nI (i + 5))), none, none] [] M Qo) : zx_To l E (d + 1) 272 1359 [some (.ref 0), some (.ref 3), some (.ref 132), some (.ref 159), some (.int (nI i)), none, none] [] M Qo := by
  have e : nI i + 5 = nI (i + 5) := (Int32.ofNat_add i 5).symm
  rw [← e] at hq
  exact zx_go zk_Le [23] 5 1359 hq
theorem zl_gt (hN : N ≤ 2560) (hi : i ≤ N) : (Int32.ofNat N - 5 < nI i) ↔ ¬ i + 5 ≤ N := by
  have e : Int32.ofNat N - 5 = Int32.ofInt ((N : Int) - 5) := by
    rw [Int32.ofInt_sub]
    rfl
  rw [Int32.lt_iff_toInt_lt, e, Int32.toInt_ofInt_of_le (by omega) (by omega)]
  have : (nI i).toInt = (i : Int) := Int32.toInt_ofNat_of_lt (by omega)
  rw [this]
  omega
set_option maxHeartbeats 4000000 in
theorem zl_head (hN : N ≤ 2560) (hi : i ≤ N) (hS : zl_S N f M) (hend : Qo (some (.int 1)) M) (hout : i + 5 ≤ N → zx_To l E (d + 1) 272 1359 [some (.ref 0), some (.ref 3), some (.ref 132), some (.ref 159), some (.int (nI i)), none, none] [] M Qo)
    (hc : i + 5 ≤ N → ∀ c ∈ zl_cs, zx_To l E (d + 1) 272 c [some (.ref 0), some (.ref 3), some (.ref 132), some (.ref 159), some (.int (nI i)), none, none] [] M Qo) : zx_To l E (d + 1) 272 23 [some (.ref 0), some (.ref 3), some (.ref 132), some (.ref 159), some (.int (nI i)), none, none] [] M Qo := by
  refine zx_go zk_Lp [32, 1365] 20 23 (And.intro (Or.inr (by decide)) (And.intro (fun _ => zl_end hend) (fun q => ?_)))
  have q : ¬ Int32.ofNat (zx_ln M 0) - 5 < nI i := q
  rw [hS.2.1] at q
  have h5 : i + 5 ≤ N := Classical.not_not.mp (fun h => q ((zl_gt hN hi).mpr h))
  have a0 := zl_vin hN h5 hS 0 0 rfl (by decide)
  have e0 : nI i + 0 = nI i := Int32.add_zero _
  rw [e0] at a0
  exact zx_go zk_Lp (1359 :: zl_cs) 20 32 (And.intro (Or.inr (by decide)) (And.intro a0.1 (And.intro rfl (And.intro (fun _ => hout h5) (And.intro (fun _ => hc h5 200 (by decide)) (And.intro (fun _ => hc h5 225 (by decide)) (And.intro (fun _ => hc h5 250 (by decide)) (And.intro (fun _ => hc h5 263 (by decide)) (And.intro (fun _ => hc h5 324 (by decide)) (And.intro (fun _ => hc h5 392 (by decide)) (And.intro (fun _ => hc h5 441 (by decide)) (And.intro (fun _ => hc h5 466 (by decide)) (And.intro (fun _ => hc h5 491 (by decide)) (And.intro (fun _ => hc h5 516 (by decide)) (And.intro (fun _ => hc h5 529 (by decide)) (And.intro (fun _ => hc h5 542 (by decide)) (And.intro (fun _ => hc h5 579 (by decide)) (And.intro (fun _ => hc h5 616 (by decide)) (And.intro (fun _ => hc h5 641 (by decide)) (And.intro (fun _ => hc h5 678 (by decide)) (And.intro (fun _ => hc h5 715 (by decide)) (And.intro (fun _ => hc h5 740 (by decide)) (And.intro (fun _ => hc h5 753 (by decide)) (And.intro (fun _ => hc h5 766 (by decide)) (And.intro (fun _ => hc h5 823 (by decide)) (And.intro (fun _ => hc h5 880 (by decide)) (And.intro (fun _ => hc h5 893 (by decide)) (And.intro (fun _ => hc h5 930 (by decide)) (And.intro (fun _ => hc h5 943 (by decide)) (And.intro (fun _ => hc h5 1000 (by decide)) (And.intro (fun _ => hc h5 1049 (by decide)) (And.intro (fun _ => hc h5 1086 (by decide)) (And.intro (fun _ => hc h5 1111 (by decide)) (And.intro (fun _ => hc h5 1164 (by decide)) (And.intro (fun _ => hc h5 1177 (by decide)) (And.intro (fun _ => hc h5 1190 (by decide)) (And.intro (fun _ => hc h5 1203 (by decide)) (And.intro (fun _ => hc h5 1228 (by decide)) (And.intro (fun _ => hc h5 1253 (by decide)) (And.intro (fun _ => hc h5 1278 (by decide)) (And.intro (fun _ => hc h5 1303 (by decide)) (trivial))))))))))))))))))))))))))))))))))))))))))
end ZLH
