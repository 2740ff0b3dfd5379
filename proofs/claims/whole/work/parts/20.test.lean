theorem sg_161_0 {l : Launch} {E : zx_E} {d : Nat} {Q : Option Value → zx_M → Prop} {I : Nat → Nat → Int32} {L : Nat → Nat → Int64} {Y : zx_Y} (hY : zx_lay Y) (x0 : Int32)
    (h : zx_To l E d 161 6 [none, some (.int x0), some (.int (0 : Int32)), some (.int (0 : Int32))] [] (I, L, Y) Q) :
    zx_To l E d 161 0 [some (.int x0), none, none, none] [] (I, L, Y) Q :=
  zx_go zk_161 [6] 400 0 (zx_wk (ls' := [none, some (.int x0), some (.int (0 : Int32)), some (.int (0 : Int32))]) (And.intro rfl (And.intro rfl (And.intro rfl trivial))) (h))
theorem sg_161_6 {l : Launch} {E : zx_E} {d : Nat} {Q : Option Value → zx_M → Prop} {I : Nat → Nat → Int32} {L : Nat → Nat → Int64} {Y : zx_Y} (hY : zx_lay Y) (x1 : Int32) (x2 : Int32) (x3 : Int32)
    (h : (((8 : Int32) ≤ x3) → (Q (some (.int x2)) (I, L, Y))) ∧ ((¬ (8 : Int32) ≤ x3) → (((x1 ≤ (0 : Int32)) → (Q (some (.int x2)) (I, L, Y))) ∧ ((¬ x1 ≤ (0 : Int32)) → (zx_To l E d 161 6 [none, some (.int (x1 / (7 : Int32))), some (.int (x2 + (1 : Int32))), some (.int (x3 + (1 : Int32)))] [] (I, L, Y) Q))))) :
    zx_To l E d 161 6 [none, some (.int x1), some (.int x2), some (.int x3)] [] (I, L, Y) Q :=
  zx_go zk_161 [6] 400 6 (And.intro (fun c1 => ((h).1 c1)) (fun c1 => And.intro (fun c2 => ((((h).2 c1)).1 c2)) (fun c2 => And.intro (by decide) (((((h).2 c1)).2 c2)))))

