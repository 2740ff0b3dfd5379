/-! ===== the law's loop ===== -/
def zl_Qo (r : Option Value) (M : zx_M) : Prop := r = some (.int 1) ∧ zx_n M ≤ 4000 ∧ zx_sl M ≤ 600000
section ZLL
variable {l : Launch} {E : zx_E} {N : Nat} {f : Nat → Int32}
set_option maxHeartbeats 4000000 in
theorem zl_loop (hl : l.stackTraces = false) (hN : N ≤ 2560) : ∀ (n i k : Nat) (M : zx_M), N - i < n → i ≤ N → 5 * k ≤ i → zi_V k M.1 M.2.1 M.2.2 → zl_S N f M → zx_To l E 21 272 23 [some (.ref 0), some (.ref 3), some (.ref 132), some (.ref 159), some (.int (nI i)), none, none] [] M zl_Qo := by
  intro n
  induction n with
  | zero => intro i k M h; omega
  | succ n ih =>
    intro i k M h1 h2 h3 hV hS
    obtain ⟨I, L, Y⟩ := M
    have hV : zi_V k I L Y := hV
    have hk : k ≤ 600 := by omega
    have hroom := zi_room hV hk
    have hY : zx_lay Y := hV.1
    refine zl_head (d := 20) hN h2 hS ⟨rfl, hroom.1, hroom.2⟩ (fun h5 => zl_foot (d := 20) (ih (i + 5) k (I, L, Y) (by omega) h5 (by omega) hV hS)) (fun h5 c hc => ?_)
    have hdef0 : ∀ (M1 M2 : zx_M), zi_V (k + 1) M2.1 M2.2.1 M2.2.2 → zx_n M1 ≤ zx_n M2 → zx_sl M1 ≤ zx_sl M2 → zl_Qo (some (.int 1)) M1 := fun M1 M2 hV2 a b => ⟨rfl, Nat.le_trans a (zi_room hV2 (by omega)).1, Nat.le_trans b (zi_room hV2 (by omega)).2⟩
    have hq0 : ∀ (M2 : zx_M), zi_V (k + 1) M2.1 M2.2.1 M2.2.2 → zl_S N f M2 → zx_To l E 21 272 1359 [some (.ref 0), some (.ref 3), some (.ref 132), some (.ref 159), some (.int (nI i)), none, none] [] M2 zl_Qo := fun M2 hV2 hS2 => zl_foot (d := 20) (ih (i + 5) (k + 1) M2 (by omega) h5 (by omega) hV2 hS2)
    have hdef : ∀ (v : Int32) (M1 M2 : zx_M), zi_V (k + 1) M2.1 M2.2.1 M2.2.2 → zx_n M1 ≤ zx_n M2 → zx_sl M1 ≤ zx_sl M2 → zl_Qo (some (.int 1)) M1 := fun _ => hdef0
    have hq : ∀ (v : Int32) (M2 : zx_M), zi_V (k + 1) M2.1 M2.2.1 M2.2.2 → zl_S N f M2 → zx_To l E 21 272 1359 [some (.ref 0), some (.ref 3), some (.ref 132), some (.ref 159), some (.int (nI i)), none, none] [] M2 zl_Qo := fun _ => hq0
    clear ih hdef0 hq0
    simp only [zl_cs, List.mem_cons, List.not_mem_nil, or_false] at hc
    rcases hc with rfl | rfl | rfl | rfl | rfl | rfl | rfl | rfl | rfl | rfl | rfl | rfl | rfl | rfl | rfl | rfl | rfl | rfl | rfl | rfl | rfl | rfl | rfl | rfl | rfl | rfl | rfl | rfl | rfl | rfl | rfl | rfl | rfl | rfl | rfl | rfl | rfl
    · exact zl_c0 (d := 20) (M := (I, L, Y)) (Q := fun _ M2 => zi_V (k + 1) M2.1 M2.2.1 M2.2.2) hY hN h5 hS (zi_0 hV) hdef hq
    · exact zl_c1 (d := 20) (M := (I, L, Y)) (Q := fun _ M2 => zi_V (k + 1) M2.1 M2.2.1 M2.2.2) hY hN h5 hS (zi_1 hV) hdef hq
    · exact zl_c2 (d := 20) (M := (I, L, Y)) (Q := fun _ M2 => zi_V (k + 1) M2.1 M2.2.1 M2.2.2) hY hN h5 hS (zi_2 hV) hdef hq
    · exact zl_c3 (d := 20) (M := (I, L, Y)) (Q := fun _ M2 => zi_V (k + 1) M2.1 M2.2.1 M2.2.2) hY hN h5 hS (zi_3 hV) hdef hq
    · exact zl_c4 hl hV hN h5 hS (hdef 0) (hq 0)
    · exact zl_c5 (d := 20) (M := (I, L, Y)) (Q := fun _ M2 => zi_V (k + 1) M2.1 M2.2.1 M2.2.2) hY hN h5 hS (zi_5 hV) hdef hq
    · exact zl_c6 (d := 20) (M := (I, L, Y)) (Q := fun _ M2 => zi_V (k + 1) M2.1 M2.2.1 M2.2.2) hY hN h5 hS (zi_6 hV) hdef hq
    · exact zl_c7 (d := 20) (M := (I, L, Y)) (Q := fun _ M2 => zi_V (k + 1) M2.1 M2.2.1 M2.2.2) hY hN h5 hS (zi_7 hV) hdef hq
    · exact zl_c8 (d := 20) (M := (I, L, Y)) (Q := fun _ M2 => zi_V (k + 1) M2.1 M2.2.1 M2.2.2) hY hN h5 hS (zi_8 hV) hdef hq
    · exact zl_c9 (d := 20) (M := (I, L, Y)) (Q := fun _ M2 => zi_V (k + 1) M2.1 M2.2.1 M2.2.2) hY hN h5 hS (zi_9 hV) hdef hq
    · exact zl_c10 (d := 20) (M := (I, L, Y)) (Q := fun _ M2 => zi_V (k + 1) M2.1 M2.2.1 M2.2.2) hY hN h5 hS (zi_10 hV) hdef hq
    · exact zl_c11 (d := 20) (M := (I, L, Y)) (Q := fun _ M2 => zi_V (k + 1) M2.1 M2.2.1 M2.2.2) hY hN h5 hS (zi_11 hV) hdef hq
    · exact zl_c12 (d := 20) (M := (I, L, Y)) (Q := fun _ M2 => zi_V (k + 1) M2.1 M2.2.1 M2.2.2) hY hN h5 hS (zi_12 hV) hdef hq
    · exact zl_c13 (d := 20) (M := (I, L, Y)) (Q := fun _ M2 => zi_V (k + 1) M2.1 M2.2.1 M2.2.2) hY hN h5 hS (zi_13 hV) hdef hq
    · exact zl_c14 (d := 20) (M := (I, L, Y)) (Q := fun _ M2 => zi_V (k + 1) M2.1 M2.2.1 M2.2.2) hY hN h5 hS (zi_14 hV) hdef hq
    · exact zl_c15 (d := 20) (M := (I, L, Y)) (Q := fun _ M2 => zi_V (k + 1) M2.1 M2.2.1 M2.2.2) hY hN h5 hS (zi_15 hV) hdef hq
    · exact zl_c16 (d := 20) (M := (I, L, Y)) (Q := fun _ M2 => zi_V (k + 1) M2.1 M2.2.1 M2.2.2) hY hN h5 hS (zi_16 hV) hdef hq
    · exact zl_c17 (d := 20) (M := (I, L, Y)) (Q := fun _ M2 => zi_V (k + 1) M2.1 M2.2.1 M2.2.2) hY hN h5 hS (zi_17 hV) hdef hq
    · exact zl_c18 (d := 20) (M := (I, L, Y)) (Q := fun _ M2 => zi_V (k + 1) M2.1 M2.2.1 M2.2.2) hY hN h5 hS (zi_18 hV) hdef hq
    · exact zl_c19 (d := 20) (M := (I, L, Y)) (Q := fun _ M2 => zi_V (k + 1) M2.1 M2.2.1 M2.2.2) hY hN h5 hS (zi_19 hV hk) hdef hq
    · exact zl_c20 (d := 20) (M := (I, L, Y)) (Q := fun _ M2 => zi_V (k + 1) M2.1 M2.2.1 M2.2.2) hY hN h5 hS (zi_20 hV hk) hdef hq
    · exact zl_c21 (d := 20) (M := (I, L, Y)) (Q := fun _ M2 => zi_V (k + 1) M2.1 M2.2.1 M2.2.2) hY hN h5 hS (zi_21 hV hk) hdef hq
    · exact zl_c22 (d := 20) (M := (I, L, Y)) (Q := fun _ M2 => zi_V (k + 1) M2.1 M2.2.1 M2.2.2) hY hN h5 hS (zi_22 hV hk) hdef hq
    · exact zl_c23 (d := 20) (M := (I, L, Y)) (Q := fun _ M2 => zi_V (k + 1) M2.1 M2.2.1 M2.2.2) hY hN h5 hS (zi_23 hV hk) hdef hq
    · exact zl_c24 (d := 20) (M := (I, L, Y)) (Q := fun _ M2 => zi_V (k + 1) M2.1 M2.2.1 M2.2.2) hY hN h5 hS (zi_24 hV hk) hdef hq
    · exact zl_c25 (d := 20) (M := (I, L, Y)) (Q := fun _ M2 => zi_V (k + 1) M2.1 M2.2.1 M2.2.2) hY hN h5 hS (zi_25 hV) hdef hq
    · exact zl_c26 (d := 20) (M := (I, L, Y)) (Q := fun _ M2 => zi_V (k + 1) M2.1 M2.2.1 M2.2.2) hY hN h5 hS (zi_26 hV) hdef hq
    · exact zl_c27 (d := 20) (M := (I, L, Y)) (Q := fun _ M2 => zi_V (k + 1) M2.1 M2.2.1 M2.2.2) hY hN h5 hS (zi_27 hV) hdef hq
    · exact zl_c28 (d := 20) (M := (I, L, Y)) (Q := fun _ M2 => zi_V (k + 1) M2.1 M2.2.1 M2.2.2) (b := !decide (f (i + 2) = 0)) (by simp) hY hN h5 hS (zi_28 hV) hdef hq
    · exact zl_c29 (d := 20) (M := (I, L, Y)) (Q := fun _ M2 => zi_V (k + 1) M2.1 M2.2.1 M2.2.2) hY hN h5 hS (zi_29 hV) hdef hq
    · exact zl_c30 (d := 20) (M := (I, L, Y)) (Q := fun _ M2 => zi_V (k + 1) M2.1 M2.2.1 M2.2.2) hY hN h5 hS (zi_30 hV) hdef hq
    · exact zl_c31 (d := 20) (M := (I, L, Y)) (Q := fun _ M2 => zi_V (k + 1) M2.1 M2.2.1 M2.2.2) hY hN h5 hS (zi_31 hV) hdef hq
    · exact zl_c32 (d := 20) (M := (I, L, Y)) (Q := fun _ M2 => zi_V (k + 1) M2.1 M2.2.1 M2.2.2) hY hN h5 hS (zi_32 hV) hdef hq
    · exact zl_c33 (d := 20) (M := (I, L, Y)) (Q := fun _ M2 => zi_V (k + 1) M2.1 M2.2.1 M2.2.2) hY hN h5 hS (zi_33 hV) hdef hq
    · exact zl_c34 (d := 20) (M := (I, L, Y)) (Q := fun _ M2 => zi_V (k + 1) M2.1 M2.2.1 M2.2.2) hY hN h5 hS (zi_34 hV) hdef hq
    · exact zl_c35 (d := 20) (M := (I, L, Y)) (Q := fun _ M2 => zi_V (k + 1) M2.1 M2.2.1 M2.2.2) hY hN h5 hS (zi_35 hV) hdef hq
    · exact zl_c36 hl hV hN h5 hS (hdef 0) (hq 0)
end ZLL
