/-! ===== what the makers have done when the law's loop begins (the lists are printed by a program) ===== -/
def zb_A1 : List zb_O := [(1, 3, 8, 120, 0, 0), (1, 120, 4, 131, 0, 0), (0, 131, 23, 3, 3, 0), (1, 120, 3, 130, 0, 0), (0, 130, 20, 3, 3, 0), (1, 120, 2, 129, 0, 0), (0, 129, 20, 3, 3, 0), (1, 120, 1, 125, 0, 0), (3, 125, 24, 3, 10, 0), (1, 120, 0, 121, 0, 0), (3, 121, 24, 3, 10, 0), (0, 120, 2, 0, 5, 0), (1, 3, 7, 117, 0, 0), (2, 117, 3, 0, 0, 3), (1, 117, 1, 119, 0, 0), (0, 119, 23, 40, 40, 0), (1, 117, 0, 118, 0, 0), (0, 118, 20, 40, 40, 0), (0, 117, 4, 0, 4, 0), (1, 3, 6, 76, 0, 0), (1, 80, 5, 114, 0, 0), (1, 114, 1, 116, 0, 0), (0, 116, 20, 6, 6, 0), (1, 114, 0, 115, 0, 0), (0, 115, 20, 6, 6, 0), (0, 114, 7, 0, 4, 0), (1, 79, 5, 111, 0, 0), (1, 111, 1, 113, 0, 0), (0, 113, 20, 6, 6, 0), (1, 111, 0, 112, 0, 0), (0, 112, 20, 6, 6, 0), (0, 111, 7, 0, 4, 0), (1, 80, 4, 108, 0, 0), (1, 108, 1, 110, 0, 0), (0, 110, 20, 6, 6, 0), (1, 108, 0, 109, 0, 0), (0, 109, 20, 6, 6, 0), (0, 108, 7, 0, 4, 0), (1, 79, 4, 105, 0, 0), (1, 105, 1, 107, 0, 0), (0, 107, 20, 6, 6, 0), (1, 105, 0, 106, 0, 0), (0, 106, 20, 6, 6, 0), (0, 105, 7, 0, 4, 0), (1, 80, 3, 102, 0, 0), (1, 102, 1, 104, 0, 0), (0, 104, 20, 6, 6, 0), (1, 102, 0, 103, 0, 0), (0, 103, 20, 6, 6, 0), (0, 102, 7, 0, 4, 0), (1, 79, 3, 99, 0, 0), (1, 99, 1, 101, 0, 0), (0, 101, 20, 6, 6, 0), (1, 99, 0, 100, 0, 0), (0, 100, 20, 6, 6, 0), (0, 99, 7, 0, 4, 0), (1, 80, 2, 96, 0, 0), (1, 96, 1, 98, 0, 0), (0, 98, 20, 6, 6, 0), (1, 96, 0, 97, 0, 0), (0, 97, 20, 6, 6, 0), (0, 96, 7, 0, 4, 0), (1, 79, 2, 93, 0, 0), (1, 93, 1, 95, 0, 0), (0, 95, 20, 6, 6, 0), (1, 93, 0, 94, 0, 0), (0, 94, 20, 6, 6, 0), (0, 93, 7, 0, 4, 0), (1, 80, 1, 90, 0, 0), (1, 90, 1, 92, 0, 0), (0, 92, 20, 6, 6, 0), (1, 90, 0, 91, 0, 0), (0, 91, 20, 6, 6, 0), (0, 90, 7, 0, 4, 0), (1, 79, 1, 87, 0, 0), (1, 87, 1, 89, 0, 0), (0, 89, 20, 6, 6, 0), (1, 87, 0, 88, 0, 0), (0, 88, 20, 6, 6, 0), (0, 87, 7, 0, 4, 0), (1, 80, 0, 84, 0, 0), (1, 84, 1, 86, 0, 0), (0, 86, 20, 6, 6, 0), (1, 84, 0, 85, 0, 0), (0, 85, 20, 6, 6, 0), (0, 84, 7, 0, 4, 0), (1, 79, 0, 81, 0, 0), (1, 81, 1, 83, 0, 0), (0, 83, 20, 6, 6, 0), (1, 81, 0, 82, 0, 0), (0, 82, 20, 6, 6, 0), (0, 81, 7, 0, 4, 0), (1, 76, 0, 8, 0, 0), (1, 76, 5, 78, 0, 0), (1, 76, 4, 80, 0, 0), (0, 80, 26, 6, 6, 0), (1, 76, 3, 79, 0, 0), (0, 79, 26, 6, 6, 0), (1, 76, 2, 78, 0, 0), (0, 78, 20, 6, 6, 0), (1, 76, 1, 77, 0, 0), (0, 77, 20, 10, 10, 0), (0, 76, 5, 0, 10, 0), (1, 3, 5, 22, 0, 0), (1, 22, 9, 75, 0, 0), (0, 75, 20, 0, 0, 0), (1, 22, 8, 74, 0, 0), (0, 74, 22, 0, 0, 0), (1, 22, 7, 73, 0, 0), (0, 73, 22, 0, 0, 0), (1, 22, 6, 72, 0, 0), (0, 72, 20, 0, 0, 0), (1, 22, 5, 71, 0, 0), (0, 71, 21, 0, 0, 0), (1, 22, 4, 70, 0, 0), (0, 70, 20, 6, 6, 0), (1, 22, 3, 63, 0, 0), (3, 63, 24, 6, 12, 0), (1, 22, 2, 62, 0, 0), (0, 62, 20, 7, 7, 0), (1, 22, 1, 61, 0, 0), (0, 61, 20, 10, 10, 0), (1, 22, 0, 23, 0, 0), (1, 23, 6, 60, 0, 0), (0, 60, 20, 7, 7, 0), (1, 23, 5, 49, 0, 0), (3, 49, 24, 10, 9, 0), (1, 23, 4, 38, 0, 0), (3, 38, 25, 10, 9, 0), (1, 23, 3, 27, 0, 0), (3, 27, 24, 10, 9, 0), (1, 23, 2, 26, 0, 0), (0, 26, 20, 10, 10, 0), (1, 23, 1, 25, 0, 0), (0, 25, 20, 10, 10, 0), (1, 23, 0, 24, 0, 0), (0, 24, 20, 10, 10, 0), (0, 23, 3, 0, 10, 0), (0, 22, 9, 0, 20, 0), (1, 3, 4, 17, 0, 0), (1, 17, 1, 8, 0, 0), (1, 17, 0, 4, 0, 0), (1, 17, 5, 21, 0, 0), (0, 21, 20, 10, 10, 0), (1, 17, 4, 20, 0, 0), (0, 20, 20, 60, 60, 0), (1, 17, 3, 19, 0, 0), (0, 19, 20, 60, 60, 0), (1, 17, 2, 18, 0, 0), (0, 18, 20, 60, 60, 0), (0, 17, 6, 0, 12, 0), (1, 3, 3, 14, 0, 0), (1, 14, 0, 4, 0, 0), (1, 14, 2, 16, 0, 0), (0, 16, 20, 76, 76, 0), (1, 14, 1, 15, 0, 0), (0, 15, 20, 76, 76, 0), (0, 14, 1, 0, 5, 0), (1, 3, 2, 8, 0, 0), (2, 8, 10, 0, 0, 1), (2, 8, 9, 0, 0, 10), (1, 8, 4, 13, 0, 0), (0, 13, 20, 60, 60, 0), (1, 8, 3, 12, 0, 0), (0, 12, 20, 60, 60, 0), (1, 8, 2, 11, 0, 0), (2, 11, 5, 0, 0, 1), (2, 11, 4, 0, 0, 1), (2, 11, 3, 0, 0, 1), (2, 11, 2, 0, 0, 1), (2, 11, 1, 0, 0, 1), (2, 11, 0, 0, 0, 1), (0, 11, 20, 6, 6, 0), (1, 8, 1, 10, 0, 0), (0, 10, 20, 10, 10, 0), (1, 8, 0, 9, 0, 0), (0, 9, 20, 10, 10, 0), (0, 8, 0, 0, 11, 0), (1, 3, 1, 6, 0, 0), (1, 6, 0, 7, 0, 0), (0, 7, 20, 12, 12, 0), (0, 6, 8, 0, 2, 0), (1, 3, 0, 4, 0, 0), (1, 4, 0, 5, 0, 0), (0, 5, 20, 80, 80, 0), (0, 4, 10, 0, 6, 0), (0, 3, 11, 0, 9, 0)]
def zb_A2 : List zb_O := [(1, 132, 48, 158, 0, 0), (0, 158, 20, 93, 93, 0), (1, 132, 47, 157, 0, 0), (0, 157, 23, 3, 3, 0), (1, 132, 43, 156, 0, 0), (0, 156, 20, 9331, 9331, 0), (1, 132, 42, 155, 0, 0), (0, 155, 20, 9331, 9331, 0), (1, 132, 41, 154, 0, 0), (0, 154, 20, 9331, 9331, 0), (1, 132, 40, 153, 0, 0), (0, 153, 20, 9331, 9331, 0), (1, 132, 39, 152, 0, 0), (0, 152, 23, 40, 40, 0), (1, 132, 38, 151, 0, 0), (0, 151, 20, 40, 40, 0), (2, 132, 36, 0, 0, 3), (1, 132, 35, 150, 0, 0), (0, 150, 20, 6, 6, 0), (1, 132, 32, 149, 0, 0), (0, 149, 23, 20000, 20000, 0), (1, 132, 31, 148, 0, 0), (0, 148, 20, 65536, 65536, 0), (1, 132, 30, 147, 0, 0), (0, 147, 20, 20000, 20000, 0), (1, 132, 29, 146, 0, 0), (0, 146, 20, 20000, 20000, 0), (1, 132, 28, 145, 0, 0), (0, 145, 21, 20000, 20000, 0), (1, 132, 27, 144, 0, 0), (0, 144, 20, 80, 80, 0), (1, 132, 26, 143, 0, 0), (0, 143, 20, 10, 10, 0), (1, 132, 19, 142, 0, 0), (0, 142, 20, 6, 6, 0), (1, 132, 18, 141, 0, 0), (0, 141, 20, 10, 10, 0), (1, 132, 13, 140, 0, 0), (0, 140, 20, 80, 80, 0), (1, 132, 12, 139, 0, 0), (0, 139, 20, 60, 60, 0), (1, 132, 11, 138, 0, 0), (0, 138, 20, 60, 60, 0), (2, 132, 9, 0, 0, 1), (2, 132, 8, 0, 0, 10), (1, 132, 7, 137, 0, 0), (2, 137, 5, 0, 0, 1), (2, 137, 4, 0, 0, 1), (2, 137, 3, 0, 0, 1), (2, 137, 2, 0, 0, 1), (2, 137, 1, 0, 0, 1), (2, 137, 0, 0, 0, 1), (0, 137, 20, 6, 6, 0), (1, 132, 6, 136, 0, 0), (0, 136, 20, 10, 10, 0), (1, 132, 5, 135, 0, 0), (0, 135, 20, 10, 10, 0), (1, 132, 4, 134, 0, 0), (0, 134, 20, 10, 10, 0), (1, 132, 2, 133, 0, 0), (0, 133, 20, 16, 16, 0)] ++ ((0, 132, 12, 0, 49, 0) :: zb_A1)
def zb_A3 : List zb_O := (0, 159, 21, 1, 1, 0) :: zb_A2
def zb_eqO (a b : zb_O) : Bool := Nat.beq a.1 b.1 && Nat.beq a.2.1 b.2.1 && Nat.beq a.2.2.1 b.2.2.1 && Nat.beq a.2.2.2.1 b.2.2.2.1 && Nat.beq a.2.2.2.2.1 b.2.2.2.2.1 && decide (a.2.2.2.2.2 = b.2.2.2.2.2)
def zb_eqL : List zb_O → List zb_O → Bool
  | [], [] => true
  | a :: as, b :: bs => zb_eqO a b && zb_eqL as bs
  | _, _ => false
def zb_same (o : Option (List zb_O)) (l : List zb_O) : Bool := match o with
  | some x => zb_eqL x l
  | none => false
theorem zb_eqL_ok : ∀ a b : List zb_O, zb_eqL a b = true → a = b
  | [], [], _ => rfl
  | (a1, a2, a3, a4, a5, a6) :: as, (b1, b2, b3, b4, b5, b6) :: bs, h => by
    simp only [zb_eqL, zb_eqO, Bool.and_eq_true, decide_eq_true_eq] at h
    obtain ⟨⟨⟨⟨⟨⟨h1, h2⟩, h3⟩, h4⟩, h5⟩, h6⟩, h7⟩ := h
    rw [Nat.eq_of_beq_eq_true h1, Nat.eq_of_beq_eq_true h2, Nat.eq_of_beq_eq_true h3, Nat.eq_of_beq_eq_true h4, Nat.eq_of_beq_eq_true h5, h6, zb_eqL_ok as bs h7]
  | [], _ :: _, h => by simp [zb_eqL] at h
  | _ :: _, [], h => by simp [zb_eqL] at h
theorem zb_same_ok {o : Option (List zb_O)} {l : List zb_O} (h : zb_same o l = true) : o = some l := by
  cases o with
  | none => cases h
  | some x => rw [zb_eqL_ok x l h]
set_option maxRecDepth 100000 in
theorem zb_m1 : zb_ex 400 20 117 0 zt_117 (zx_ent [.ref 3] (zx_mL 117)) [] [(0, 3, 11, 0, 9, 0)] = some zb_A1 := zb_same_ok (by decide +kernel)
set_option maxRecDepth 100000 in
theorem zb_m2 : zb_ex 400 20 263 0 zt_263 (zx_ent [.ref 132] (zx_mL 263)) [] ((0, 132, 12, 0, 49, 0) :: zb_A1) = some zb_A2 := zb_same_ok (by decide +kernel)
set_option maxRecDepth 100000 in
theorem zb_w1 : zb_wf ((0, 132, 12, 0, 49, 0) :: zb_A1) = true ∧ zb_n zb_A1 = 132 := by decide +kernel
set_option maxRecDepth 100000 in
theorem zb_w3 : zb_wf zb_A3 = true ∧ zb_n zb_A2 = 159 ∧ zb_n zb_A3 = 160 ∧ zb_s zb_A3 = 184937 := by decide +kernel
set_option maxRecDepth 100000 in
theorem zb_chL : ((List.range 160).all fun i => decide (i < 3) || decide (zb_lk i zb_A3 = some (zx_KD.getD i 0, zx_LN.getD i 0))) = true := by decide +kernel
set_option maxRecDepth 100000 in
theorem zb_chR : (zx_RF.all fun q => decide (zb_rf q.1 q.2.1 zb_A3 = some q.2.2)) = true := by decide +kernel
/-- the memory where the law begins: the script, the two static rows -/
def zl_M0 (N : Nat) (f : Nat → Int32) : zx_M := (fun a k => if a = 0 then f k else if a = 1 then nI (7 ^ k) else nI (6 ^ k), fun _ _ => 0, fun _ _ => none, fun _ => 30, fun a => if a = 0 then N else 6, 3, 0)
def zl_M3 (N : Nat) (f : Nat → Int32) : zx_M := zb_run (zl_M0 N f) zb_A3
theorem zl_M3_P (N : Nat) (f : Nat → Int32) : zb_P (zl_M0 N f) zb_A3 := zb_ok rfl zb_A3 zb_w3.1
theorem zl_M3_lay (N : Nat) (f : Nat → Int32) : zx_lay (zl_M3 N f).2.2 := by
  have hP := zl_M3_P N f
  have hL : ∀ i, i < 160 → ¬ i < 3 → zb_lk i zb_A3 = some (zx_KD.getD i 0, zx_LN.getD i 0) := fun i hi h3 => by
    have := List.all_eq_true.mp zb_chL i (List.mem_range.mpr hi)
    simp only [Bool.or_eq_true, decide_eq_true_eq] at this
    exact this.resolve_left h3
  refine ⟨?_, fun i hi => ?_, fun i h0 hi => ?_, fun j q hq => ?_⟩
  · show 160 ≤ zx_n (zb_run (zl_M0 N f) zb_A3)
    rw [hP.1, zb_w3.2.2.1]
    exact Nat.le_refl _
  · by_cases h3 : i < 3
    · have := (hP.2.2.2.2.2.1 i h3).2.1
      refine this.trans ?_
      rcases (by omega : i = 0 ∨ i = 1 ∨ i = 2) with rfl | rfl | rfl <;> rfl
    · exact (hP.2.2.1 _ _ _ (hL i hi h3)).2.2.1
  · by_cases h3 : i < 3
    · have := (hP.2.2.2.2.2.1 i h3).2.2
      refine this.trans ?_
      rcases (by omega : i = 1 ∨ i = 2) with rfl | rfl <;> rfl
    · exact (hP.2.2.1 _ _ _ (hL i hi h3)).2.2.2
  · have := List.all_eq_true.mp zb_chR q (List.mem_of_getElem? hq)
    simp only [decide_eq_true_eq] at this
    exact hP.2.2.2.1 _ _ _ this
theorem zl_M3_in {N : Nat} {f : Nat → Int32} (a k : Nat) (v : Int32) (h : zb_in a k zb_A3 = some v) : (zl_M3 N f).1 a k = v := (zl_M3_P N f).2.2.2.2.1 a k v h
theorem zl_M3_row {N : Nat} {f : Nat → Int32} (a n : Nat) (v : Int32) (h : ((List.range n).all fun p => decide (zb_in a p zb_A3 = some v)) = true) {p : Nat} (hp : p < n) : (zl_M3 N f).1 a p = v := by
  have := List.all_eq_true.mp h p (List.mem_range.mpr hp)
  simp only [decide_eq_true_eq] at this
  exact zl_M3_in a p v this
theorem zl_M3_low {N : Nat} {f : Nat → Int32} {i : Nat} (h : i < 3) : (zl_M3 N f).1 i = (zl_M0 N f).1 i := ((zl_M3_P N f).2.2.2.2.2.1 i h).1
theorem zl_M3_n (N : Nat) (f : Nat → Int32) : zx_n (zl_M3 N f) = 160 := by
  show zx_n (zb_run (zl_M0 N f) zb_A3) = 160
  rw [(zl_M3_P N f).1, zb_w3.2.2.1]
theorem zl_M3_s (N : Nat) (f : Nat → Int32) : zx_sl (zl_M3 N f) = 184937 := by
  show zx_sl (zb_run (zl_M0 N f) zb_A3) = 184937
  have e : zx_sl (zl_M0 N f) = 0 := rfl
  rw [(zl_M3_P N f).2.2.2.2.2.2, zb_w3.2.2.2, e]
theorem zl_M3_S (N : Nat) (f : Nat → Int32) : zl_S N f (zl_M3 N f) := by
  have h := (zl_M3_P N f).2.2.2.2.2.1 0 (by decide)
  have e : zx_ln (zl_M3 N f) 0 = N := h.2.2
  refine ⟨by rw [e]; exact Nat.le_refl _, by rw [e], fun j _ => ?_⟩
  have e1 : (zl_M3 N f).1 0 = (zl_M0 N f).1 0 := h.1
  rw [e1]
  rfl
section ZLP
variable {l : Launch} {E : zx_E} {N : Nat} {f : Nat → Int32} {Qo : Option Value → zx_M → Prop}
/-- the law up to its loop -/
theorem zl_pro (hq : zx_To l E 21 272 23 [some (.ref 0), some (.ref 3), some (.ref 132), some (.ref 159), some (.int (nI 0)), none, none] [] (zl_M3 N f) Qo) :
    zx_To l E 21 272 0 [some (.ref 0), none, none, none, none, none, none] [] (zl_M0 N f) Qo := by
  have h1 := zb_ex_ok (l := l) (E := E) (M0 := zl_M0 N f) rfl 400 20 117 0 zt_117 _ [] _ zb_A1 (fun e he => he) (by decide) zb_m1
  have h2 := zb_ex_ok (l := l) (E := E) (M0 := zl_M0 N f) rfl 400 20 263 0 zt_263 _ [] _ zb_A2 (fun e he => he) zb_w1.1 zb_m2
  have n1 : zx_n (zb_run (zl_M0 N f) zb_A1) = 132 := by rw [(zb_ok (M := zl_M0 N f) rfl zb_A1 h1.1).1, zb_w1.2]
  have n2 : zx_n (zb_run (zl_M0 N f) zb_A2) = 159 := by rw [(zb_ok (M := zl_M0 N f) rfl zb_A2 h2.1).1, zb_w3.2.1]
  refine zx_go zk_Lp [7] 40 0 ?_
  show zx_Cv l E 20 117 [.ref 3] (zb_run (zl_M0 N f) [(0, 3, 11, 0, 9, 0)]) (fun M1 => zx_To l E 21 272 7 [some (.ref 0), none, none, none, none, none, none] [.ref 3] M1 Qo)
  refine zx_To.mono h1.2 (fun r M1 q => ⟨q.1, ?_⟩)
  rw [q.2]
  have h2' : zx_Cv l E 20 263 [.ref 132] (zx_nw (zb_run (zl_M0 N f) zb_A1) 12 0 49) (fun M' => M' = zb_run (zl_M0 N f) zb_A2) := h2.2
  have hq' : zx_To l E 21 272 23 [some (.ref 0), some (.ref 3), some (.ref 132), some (.ref 159), some (.int (nI 0)), none, none] [] (zx_nw (zb_run (zl_M0 N f) zb_A2) 21 1 1) Qo := hq
  clear hq h1 h2
  generalize zb_run (zl_M0 N f) zb_A2 = M2 at *
  generalize zb_run (zl_M0 N f) zb_A1 = M1 at *
  refine zx_go zk_Lp [15] 40 7 ?_
  show zx_Cv l E 20 263 [.ref (zx_n M1)] (zx_nw M1 12 0 49) (fun M' => zx_To l E 21 272 15 [some (.ref 0), some (.ref 3), none, none, none, none, none] [.ref (zx_n M1)] M' Qo)
  rw [n1]
  refine zx_Cv.mono h2' (fun M' e => ?_)
  rw [e]
  refine zx_go zk_Lp [23] 40 15 ?_
  refine And.intro (by decide) (And.intro (by decide) ?_)
  show zx_To l E 21 272 23 [some (.ref 0), some (.ref 3), some (.ref 132), some (.ref (zx_n M2)), some (.int 0), none, none] [] (zx_nw M2 21 1 1) Qo
  rw [n2]
  exact hq'
end ZLP
