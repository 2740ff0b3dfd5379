/-! ===== where everything lies (printed by wip/gen/sym.py) ===== -/
abbrev zx_Y : Type := (Nat → Nat → Option Nat) × (Nat → Nat) × (Nat → Nat) × Nat × Nat
def zx_KD : List Nat := [30, 30, 30, 11, 10, 20, 8, 20, 0, 20, 20, 20, 20, 20, 1, 20, 20, 6, 20, 20, 20, 20, 9, 3, 20, 20, 20, 24, 20, 20, 20, 20, 20, 20, 20, 20, 20, 20, 25, 21, 21, 21, 21, 21, 21, 21, 21, 21, 21, 24, 20, 20, 20, 20, 20, 20, 20, 20, 20, 20, 20, 20, 20, 24, 20, 20, 20, 20, 20, 20, 20, 21, 20, 22, 22, 20, 5, 20, 20, 26, 26, 7, 20, 20, 7, 20, 20, 7, 20, 20, 7, 20, 20, 7, 20, 20, 7, 20, 20, 7, 20, 20, 7, 20, 20, 7, 20, 20, 7, 20, 20, 7, 20, 20, 7, 20, 20, 4, 20, 23, 2, 24, 20, 20, 20, 24, 20, 20, 20, 20, 20, 23, 12, 20, 20, 20, 20, 20, 20, 20, 20, 20, 20, 20, 20, 21, 20, 20, 20, 23, 20, 20, 23, 20, 20, 20, 20, 23, 20, 21]
def zx_LN : List Nat := [0, 6, 6, 0, 0, 80, 0, 12, 0, 10, 10, 6, 60, 60, 0, 76, 76, 0, 60, 60, 60, 10, 0, 0, 10, 10, 10, 10, 9, 9, 9, 9, 9, 9, 9, 9, 9, 9, 10, 9, 9, 9, 9, 9, 9, 9, 9, 9, 9, 10, 9, 9, 9, 9, 9, 9, 9, 9, 9, 9, 7, 10, 7, 6, 12, 12, 12, 12, 12, 12, 6, 0, 0, 0, 0, 0, 0, 10, 6, 6, 6, 0, 6, 6, 0, 6, 6, 0, 6, 6, 0, 6, 6, 0, 6, 6, 0, 6, 6, 0, 6, 6, 0, 6, 6, 0, 6, 6, 0, 6, 6, 0, 6, 6, 0, 6, 6, 0, 40, 40, 0, 3, 10, 10, 10, 3, 10, 10, 10, 3, 3, 3, 0, 16, 10, 10, 10, 6, 60, 60, 80, 10, 6, 10, 80, 20000, 20000, 20000, 65536, 20000, 6, 40, 40, 9331, 9331, 9331, 9331, 3, 93, 1]
def zx_RF : List (Nat × Nat × Nat) := [(3, 0, 4), (3, 1, 6), (3, 2, 8), (3, 3, 14), (3, 4, 17), (3, 5, 22), (3, 6, 76), (3, 7, 117), (3, 8, 120), (4, 0, 5), (6, 0, 7), (8, 0, 9), (8, 1, 10), (8, 2, 11), (8, 3, 12), (8, 4, 13), (14, 0, 4), (14, 1, 15), (14, 2, 16), (17, 0, 4), (17, 1, 8), (17, 2, 18), (17, 3, 19), (17, 4, 20), (17, 5, 21), (22, 0, 23), (22, 1, 61), (22, 2, 62), (22, 3, 63), (22, 4, 70), (23, 0, 24), (23, 1, 25), (23, 2, 26), (23, 3, 27), (23, 4, 38), (23, 5, 49), (23, 6, 60), (27, 0, 28), (27, 1, 29), (27, 2, 30), (27, 3, 31), (27, 4, 32), (27, 5, 33), (27, 6, 34), (27, 7, 35), (27, 8, 36), (27, 9, 37), (38, 0, 39), (38, 1, 40), (38, 2, 41), (38, 3, 42), (38, 4, 43), (38, 5, 44), (38, 6, 45), (38, 7, 46), (38, 8, 47), (38, 9, 48), (49, 0, 50), (49, 1, 51), (49, 2, 52), (49, 3, 53), (49, 4, 54), (49, 5, 55), (49, 6, 56), (49, 7, 57), (49, 8, 58), (49, 9, 59), (63, 0, 64), (63, 1, 65), (63, 2, 66), (63, 3, 67), (63, 4, 68), (63, 5, 69), (76, 0, 8), (76, 1, 77), (76, 2, 78), (76, 3, 79), (76, 4, 80), (79, 0, 81), (79, 1, 87), (79, 2, 93), (79, 3, 99), (79, 4, 105), (79, 5, 111), (80, 0, 84), (80, 1, 90), (80, 2, 96), (80, 3, 102), (80, 4, 108), (80, 5, 114), (81, 0, 82), (81, 1, 83), (84, 0, 85), (84, 1, 86), (87, 0, 88), (87, 1, 89), (90, 0, 91), (90, 1, 92), (93, 0, 94), (93, 1, 95), (96, 0, 97), (96, 1, 98), (99, 0, 100), (99, 1, 101), (102, 0, 103), (102, 1, 104), (105, 0, 106), (105, 1, 107), (108, 0, 109), (108, 1, 110), (111, 0, 112), (111, 1, 113), (114, 0, 115), (114, 1, 116), (117, 0, 118), (117, 1, 119), (120, 0, 121), (120, 1, 125), (120, 2, 129), (120, 3, 130), (120, 4, 131), (121, 0, 122), (121, 1, 123), (121, 2, 124), (125, 0, 126), (125, 1, 127), (125, 2, 128), (132, 2, 133), (132, 4, 134), (132, 5, 135), (132, 6, 136), (132, 7, 137), (132, 11, 138), (132, 12, 139), (132, 13, 140), (132, 18, 141), (132, 19, 142), (132, 26, 143), (132, 27, 144), (132, 28, 145), (132, 29, 146), (132, 30, 147), (132, 31, 148), (132, 32, 149), (132, 35, 150), (132, 38, 151), (132, 39, 152), (132, 40, 153), (132, 41, 154), (132, 42, 155), (132, 43, 156), (132, 47, 157), (132, 48, 158)]
def zx_lay (Y : zx_Y) : Prop := 160 ≤ Y.2.2.2.1 ∧ (∀ i, i < 160 → Y.2.1 i = zx_KD.getD i 0) ∧ (∀ i, 0 < i → i < 160 → Y.2.2.1 i = zx_LN.getD i 0) ∧ ∀ (j : Nat) (q : Nat × Nat × Nat), zx_RF[j]? = some q → Y.1 q.1 q.2.1 = some q.2.2
section ZY
variable {I : Nat → Nat → Int32} {L : Nat → Nat → Int64} {Y : zx_Y}
theorem zx_lis (h : zx_lay Y) (i kd : Nat) (hc : (Nat.ble 3 i && Nat.blt i 160) = true) (hk : zx_KD.getD i 0 = kd) : zx_is (I, L, Y) i kd := by
  simp only [Bool.and_eq_true] at hc
  have h1 := Nat.le_of_ble_eq_true hc.1
  have h2 : i < 160 := Nat.le_of_ble_eq_true hc.2
  exact ⟨h1, Nat.lt_of_lt_of_le h2 h.1, (h.2.1 i h2).trans hk⟩
theorem zx_lln (h : zx_lay Y) (i n : Nat) (hc : (Nat.ble 1 i && Nat.blt i 160) = true) (hl : zx_LN.getD i 0 = n) : zx_ln (I, L, Y) i = n := by
  simp only [Bool.and_eq_true] at hc
  exact (h.2.2.1 i (Nat.le_of_ble_eq_true hc.1) (Nat.le_of_ble_eq_true hc.2)).trans hl
theorem zx_lin (h : zx_lay Y) (i n : Nat) (hc : (Nat.ble 1 i && Nat.blt i 160) = true) (hl : zx_LN.getD i 0 = n) {j : Int32} (hj : vp_in j n) : vp_in j (zx_ln (I, L, Y) i) := by
  rw [zx_lln h i n hc hl]; exact hj
theorem zx_lle (h : zx_lay Y) (i n : Nat) (hc : (Nat.ble 1 i && Nat.blt i 160) = true) (hl : zx_LN.getD i 0 = n) {m : Nat} (hm : m ≤ n) : m ≤ zx_ln (I, L, Y) i := by
  rw [zx_lln h i n hc hl]; exact hm
theorem zx_lrf (h : zx_lay Y) (q a k x : Nat) (hq : zx_RF[q]? = some (a, k, x)) : Y.1 a k = some x := h.2.2.2 q _ hq
theorem zx_lkd (h : zx_lay Y) (i kd : Nat) (hc : Nat.blt i 160 = true) (hk : zx_KD.getD i 0 = kd) : zx_kd (I, L, Y) i = kd := (h.2.1 i (Nat.le_of_ble_eq_true hc)).trans hk
theorem zx_l24 (h : zx_lay Y) (i kd : Nat) (hc : (Nat.ble 3 i && Nat.blt i 160) = true) (hk : zx_KD.getD i 0 = kd) (h1 : (Nat.ble 24 kd && Nat.ble kd 26) = true) : 3 ≤ i ∧ i < zx_n (I, L, Y) ∧ 24 ≤ zx_kd (I, L, Y) i ∧ zx_kd (I, L, Y) i ≤ 26 := by
  have h2 := zx_lis (I := I) (L := L) h i kd hc hk
  simp only [Bool.and_eq_true] at h1
  exact ⟨h2.1, h2.2.1, by rw [h2.2.2]; exact Nat.le_of_ble_eq_true h1.1, by rw [h2.2.2]; exact Nat.le_of_ble_eq_true h1.2⟩
theorem zx_lpr (h : zx_lay Y) (i b j : Nat) (hn : (zx_RF.all fun q => !(Nat.beq q.1 i && Nat.beq q.2.1 b)) = true) : zx_lay (zx_u2 Y.1 i b (some j), Y.2) :=
  ⟨h.1, h.2.1, h.2.2.1, fun k q hq => by
    have h9 := List.all_eq_true.mp hn q (List.mem_of_getElem? hq)
    have : ¬ (q.1 = i ∧ q.2.1 = b) := fun ⟨e1, e2⟩ => by rw [e1, e2, Nat.beq_refl, Nat.beq_refl] at h9; cases h9
    show zx_u2 Y.1 i b (some j) q.1 q.2.1 = _
    unfold zx_u2
    rw [if_neg this]
    exact h.2.2.2 k q hq⟩
end ZY
/-- fewer locals known -/
def zx_sub : List (Option Value) → List (Option Value) → Prop
  | none :: a, _ :: b => zx_sub a b
  | some v :: a, w :: b => w = some v ∧ zx_sub a b
  | [], _ => True
  | none :: a, [] => zx_sub a []
  | some _ :: _, [] => False
theorem zx_sub_get : ∀ (a b : List (Option Value)) (i : Nat) (v : Value), zx_sub a b → a[i]? = some (some v) → b[i]? = some (some v)
  | none :: a, w :: b, 0, v, _, h => by simp at h
  | none :: a, w :: b, i + 1, v, hs, h => by simpa using zx_sub_get a b i v hs (by simpa using h)
  | some u :: a, w :: b, 0, v, hs, h => by
    simp at h
    rw [hs.1, h]
    rfl
  | some u :: a, w :: b, i + 1, v, hs, h => by simpa using zx_sub_get a b i v hs.2 (by simpa using h)
  | [], _, i, v, _, h => by simp at h
  | none :: a, [], 0, v, _, h => by simp at h
  | none :: a, [], i + 1, v, hs, h => by have := zx_sub_get a [] i v hs (by simpa using h); simp at this
  | some _ :: _, [], _, _, hs, _ => hs.elim
theorem zx_wk {l : Launch} {E : zx_E} {d k pc : Nat} {ls ls' : List (Option Value)} {st : List Value} {M : zx_M} {Q : Option Value → zx_M → Prop} (hs : zx_sub ls' ls) (h : zx_To l E d k pc ls' st M Q) : zx_To l E d k pc ls st M Q := by
  obtain ⟨r, M', hq, ho, h1, h2, h3⟩ := h
  exact ⟨r, M', hq, ho, h1, h2, fun p e R s m args below meth c hF Q CF SF hC hS hret H locs cells slots la hR hL hB e1 e2 => h3 p e R s m args below meth c hF Q CF SF hC hS hret H locs cells slots la hR ⟨hL.1, hL.2.1, fun i v hi => hL.2.2 i v (zx_sub_get ls' ls i v hs hi)⟩ hB e1 e2⟩
theorem zx_To.mono {l : Launch} {E : zx_E} {d k pc : Nat} {ls : List (Option Value)} {st : List Value} {M : zx_M} {Q Q' : Option Value → zx_M → Prop} (h : zx_To l E d k pc ls st M Q) (hq : ∀ r M', Q r M' → Q' r M') : zx_To l E d k pc ls st M Q' := by
  obtain ⟨r, M', h1, h2⟩ := h
  exact ⟨r, M', hq r M' h1, h2⟩
theorem zx_Ci.mono {l : Launch} {E : zx_E} {d b : Nat} {as : List Value} {M : zx_M} {Q Q' : Int32 → zx_M → Prop} (h : zx_Ci l E d b as M Q) (hq : ∀ v M', Q v M' → Q' v M') : zx_Ci l E d b as M Q' := zx_To.mono h (fun r M' ⟨v, e, g⟩ => ⟨v, e, hq v M' g⟩)
theorem zx_Cl.mono {l : Launch} {E : zx_E} {d b : Nat} {as : List Value} {M : zx_M} {Q Q' : Int64 → zx_M → Prop} (h : zx_Cl l E d b as M Q) (hq : ∀ v M', Q v M' → Q' v M') : zx_Cl l E d b as M Q' := zx_To.mono h (fun r M' ⟨v, e, g⟩ => ⟨v, e, hq v M' g⟩)
theorem zx_Cv.mono {l : Launch} {E : zx_E} {d b : Nat} {as : List Value} {M : zx_M} {Q Q' : zx_M → Prop} (h : zx_Cv l E d b as M Q) (hq : ∀ M', Q M' → Q' M') : zx_Cv l E d b as M Q' := zx_To.mono h (fun r M' ⟨e, g⟩ => ⟨e, hq M' g⟩)

