/-! ===== undo ===== -/
section YU
variable {l : Launch} {E : zx_E} {d : Nat} {I : Nat → Nat → Int32} {L : Nat → Nat → Int64} {Y : zx_Y} {Qo : Option Value → zx_M → Prop} {Q : Int32 → zx_M → Prop} {Qv : zx_M → Prop}
def zy_tk (I : Nat → Nat → Int32) (c r m : Nat) (y : Int32) : Nat → Nat → Int32 :=
  zx_u2 (zy_ch (zx_u2 (zx_u2 I 8 5 (nI m)) 8 6 (nI r)) 9 10 c (fun v => v * 7 + y) (fun v => v - 1) 10) 8 8 (I 8 8 ^^^ nI c)
theorem zy_c12 (hY : zx_lay Y) {r m c : Nat} {y : Int32} (hr : r ≤ 60) (hm : m ≤ 60) (h6 : I 8 6 = nI r) (h5 : I 8 5 = nI m) (hc : c < 1024)
    (h12 : I 12 ((r + 59) % 60) = nI c) (h13 : I 13 ((r + 59) % 60) = y)
    (hq : if m = 0 then Q 0 (I, L, Y) else Q 1 (zy_tk I c ((r + 59) % 60) (m - 1) y, L, Y)) : zx_Ci l E d 12 [.ref 8] (I, L, Y) Q := by
  have rr : (r + 59) % 60 < 60 := Nat.mod_lt _ (by omega)
  have loop : m ≠ 0 → ∀ w : Int32, w = nI ((r + 59) % 60) → zx_To l E d 12 72 [some (.ref 8), none, some (.int (nI c)), some (.int 0)] [] (zx_u2 (zx_u2 I 8 5 (nI (m - 1))) 8 6 w, L, Y) (fun r M' => ∃ v, r = some (.int v) ∧ Q v M') := by
    intro h0 w hw
    subst hw
    rw [if_neg h0] at hq
    have goal : zx_To l E d 12 72 [some (.ref 8), none, some (.int (nI c)), some (.int (nI 0))] [] (zy_ch (zx_u2 (zx_u2 I 8 5 (nI (m - 1))) 8 6 (nI ((r + 59) % 60))) 9 10 c (fun v => v * 7 + y) (fun v => v - 1) 0, L, Y) (fun r M' => ∃ v, r = some (.int v) ∧ Q v M') := by
      refine zy_down (n := 10) (P := fun i => zx_To l E d 12 72 [some (.ref 8), none, some (.int (nI c)), some (.int (nI i))] [] (zy_ch (zx_u2 (zx_u2 I 8 5 (nI (m - 1))) 8 6 (nI ((r + 59) % 60))) 9 10 c (fun v => v * 7 + y) (fun v => v - 1) i, L, Y) (fun r M' => ∃ v, r = some (.int v) ∧ Q v M')) ?_ (fun i hi ih => ?_)
      · refine sg_12_72 hY _ _ ⟨fun _ => ⟨_, rfl, ?_⟩, fun h1 => absurd ((zy_10 (by omega)).mpr (Nat.le_refl _)) h1⟩
        rw [zy_ch_at (by omega) (by omega), zy_u2_nk (by omega), zy_u2_nk (by omega)]
        exact hq
      · refine sg_12_72 hY _ _ ⟨fun h1 => absurd ((zy_10 (by omega)).mp h1) (by omega), fun _ => ?_⟩
        rw [zy_test0 (by omega) (by omega)]
        have hv := vp_in_nI (n := i) (N := 10) (by omega) (by omega)
        refine ⟨fun h => ?_, fun h => ?_⟩
        · rw [nI_1, ← zy_ch_no h]; exact ih
        · have h' : c.testBit i = true := by simpa using h
          have e6 : zy_ch (zx_u2 (zx_u2 I 8 5 (nI (m - 1))) 8 6 (nI ((r + 59) % 60))) 9 10 c (fun v => v * 7 + y) (fun v => v - 1) i 8 6 = nI ((r + 59) % 60) := by rw [zy_ch_at (by omega) (by omega), zy_u2_self]
          have e13 : zy_ch (zx_u2 (zx_u2 I 8 5 (nI (m - 1))) 8 6 (nI ((r + 59) % 60))) 9 10 c (fun v => v * 7 + y) (fun v => v - 1) i 13 ((r + 59) % 60) = y := by rw [zy_ch_at (by omega) (by omega), zy_u2_na (by omega), zy_u2_na (by omega)]; exact h13
          rw [zy_ch_yes (by omega) h'] at ih
          rw [nI_1, nI_clamp (by omega), e6, nI_clamp (by omega), e13]
          exact ⟨hv, vp_in_nI rr (by omega), hv, hv, hv, ih⟩
    rw [zy_ch_0] at goal
    exact goal
  have e5 : m ≠ 0 → I 8 5 - 1 = nI (m - 1) := fun h0 => by rw [h5]; exact zy_sub_nI (b := 1) (by omega) (by omega)
  refine sg_12_0 hY ⟨fun h1 => ?_, fun h1 => ⟨_, rfl, ?_⟩⟩
  · have h0 : m ≠ 0 := fun q => h1 (by rw [h5, q]; rfl)
    rw [e5 h0]
    refine ⟨fun h2 => ⟨fun _ => ?_, fun h => absurd rfl h⟩, fun h2 => ⟨fun h3 => ?_, fun _ => ⟨fun h => absurd h (by decide), fun _ => ?_⟩⟩⟩
    · rw [h6, zy_le0 (by omega)] at h2
      subst h2
      have := loop h0 59 rfl
      have e : I 12 59 = nI c := h12
      rw [e]; exact this
    · rw [h6] at h3
      have := (nI_ltI (a := 60) (by omega) (by omega)).mp h3
      omega
    · rw [h6, zy_le0 (by omega)] at h2
      have e1 : I 8 6 - 1 = nI ((r + 59) % 60) := by
        rw [h6, show (r + 59) % 60 = r - 1 by omega]; exact zy_sub_nI (b := 1) (by omega) (by omega)
      rw [e1, nI_clamp (by omega), h12]
      exact ⟨vp_in_nI rr (by omega), loop h0 _ rfl⟩
  · rw [h5, zy_eq0 (by omega)] at h1
    rw [if_pos h1] at hq; exact hq
theorem zy_197 (hY : zx_lay Y) {P m c : Nat} {x : Int32} (hP : P ≤ 10) (hp : I 132 3 = nI P) (hm : m ≤ 60) (h10 : I 132 10 = nI m) (hc : c < 1024) (h139 : I 139 (m - 1) = nI c) (h138 : I 138 (m - 1) = x)
    (hq : if m = 0 then Q (-1) (zx_u2 I 132 0 0, L, Y) else Q (nI (m - 1)) (zy_ns (zy_ch (zx_u2 (zx_u2 I 132 0 0) 132 10 (nI (m - 1))) 135 136 c (fun v => v + (-1)) (fun v => 1 - v) P) c x P, L, Y)) : zx_Ci l E (d + 2) 197 [.ref 132] (I, L, Y) Q := by
  refine sg_197_0 hY ⟨fun h1 => ?_, fun h1 => ⟨_, rfl, ?_⟩⟩
  · have h0 : m ≠ 0 := fun q => h1 (by rw [h10, q]; rfl)
    have e5 : I 132 10 - 1 = nI (m - 1) := by rw [h10]; exact zy_sub_nI (b := 1) (by omega) (by omega)
    rw [if_neg h0] at hq
    rw [e5, nI_clamp (by omega), h139]
    refine ⟨vp_in_nI (by omega) (by omega), zy_190 hY hP hc (by rw [zy_u2_nk (by omega), zy_u2_nk (by omega)]; exact hp) ⟨hY, ?_⟩⟩
    generalize hJ : zy_ch (zx_u2 (zx_u2 I 132 0 0) 132 10 (nI (m - 1))) 135 136 c (fun v => v + (-1)) (fun v => 1 - v) P = J at *
    have j3 : ∀ i, zy_ns J c x i 132 3 = nI P := fun i => by unfold zy_ns; rw [if_neg (by omega), ← hJ, zy_ch_at (by omega) (by omega), zy_u2_nk (by omega), zy_u2_nk (by omega)]; exact hp
    have j10 : ∀ i, zy_ns J c x i 132 10 = nI (m - 1) := fun i => by unfold zy_ns; rw [if_neg (by omega), ← hJ, zy_ch_at (by omega) (by omega), zy_u2_self]
    have j139 : ∀ i, zy_ns J c x i 139 (m - 1) = nI c := fun i => by unfold zy_ns; rw [if_neg (by omega), ← hJ, zy_ch_at (by omega) (by omega), zy_u2_na (by omega), zy_u2_na (by omega)]; exact h139
    have j138 : ∀ i, zy_ns J c x i 138 (m - 1) = x := fun i => by unfold zy_ns; rw [if_neg (by omega), ← hJ, zy_ch_at (by omega) (by omega), zy_u2_na (by omega), zy_u2_na (by omega)]; exact h138
    have goal : zx_To l E (d + 2) 197 40 [some (.ref 132), some (.int (nI 0))] [] (zy_ns J c x 0, L, Y) (fun r M' => ∃ v, r = some (.int v) ∧ Q v M') := by
      refine zy_down (n := P) (P := fun i => zx_To l E (d + 2) 197 40 [some (.ref 132), some (.int (nI i))] [] (zy_ns J c x i, L, Y) (fun r M' => ∃ v, r = some (.int v) ∧ Q v M')) ?_ (fun i hi ih => ?_)
      · refine sg_197_40 hY _ ⟨fun _ => ⟨_, rfl, ?_⟩, fun h => absurd ?_ h⟩
        · rw [j10]; exact hq
        · rw [j3]; exact (nI_leI (by omega) (by omega)).mpr (Nat.le_refl _)
      · have hv := vp_in_nI (n := i) (N := 10) (by omega) (by omega)
        have hv2 := vp_in_nI (n := m - 1) (N := 60) (by omega) (by omega)
        refine sg_197_40 hY _ ⟨fun h => ?_, fun _ => ?_⟩
        · rw [j3, nI_leI (by omega) (by omega)] at h; omega
        rw [j10, nI_clamp (by omega), j139]
        refine ⟨hv2, zy_has hY hc (by omega) ⟨hY, ?_⟩⟩
        rw [zy_b0]
        refine ⟨fun h => ⟨hv, hv, ?_⟩, fun h => ?_⟩
        · rw [nI_1, nI_clamp (by omega)]
          show zx_To l E (d + 2) 197 40 _ [] (zx_u2 (zy_ns J c x i) 134 i (zy_ns J c x i 134 i), L, Y) _
          rw [zy_u2_same, ← zy_ns_no h]; exact ih
        · have h' : c.testBit i = true := by simpa using h
          rw [zy_ns_yes h'] at ih
          show vp_in (zy_ns J c x i 132 10) 60 ∧ vp_in (nI i) 10 ∧ zx_To l E (d + 2) 197 40 _ [] (zx_u2 (zy_ns J c x i) 134 _ (zy_ns J c x i 138 (zy_ns J c x i 132 10).toNatClampNeg), L, Y) _
          rw [j10, nI_clamp (by omega), nI_clamp (by omega), j138, nI_1]
          exact ⟨hv2, hv, ih⟩
    have e : zy_ns J c x 0 = J := by funext a k; unfold zy_ns; rw [if_neg (by omega)]
    rw [e] at goal
    exact goal
  · rw [h10, zy_eq0 (by omega)] at h1
    rw [if_pos h1] at hq; exact hq
end YU
section YU2
variable {I : Nat → Nat → Int32} {c r m P : Nat} {y : Int32}
theorem zy_tk_9 {k : Nat} (hk : k < 10) : zy_tk I c r m y 9 k = if c.testBit k then I 9 k * 7 + y else I 9 k := by
  unfold zy_tk
  rw [zy_u2_na (by omega)]
  unfold zy_ch
  by_cases h : c.testBit k = true
  · rw [if_pos ⟨rfl, hk, h⟩, if_pos h, zy_u2_na (by omega), zy_u2_na (by omega)]
  · rw [if_neg (fun q => h q.2.2), if_neg (by omega), if_neg h, zy_u2_na (by omega), zy_u2_na (by omega)]
theorem zy_tk_10 {k : Nat} (hk : k < 10) : zy_tk I c r m y 10 k = if c.testBit k then I 10 k - 1 else I 10 k := by
  unfold zy_tk
  rw [zy_u2_na (by omega)]
  unfold zy_ch
  by_cases h : c.testBit k = true
  · rw [if_neg (by omega), if_pos ⟨rfl, hk, h⟩, if_pos h, zy_u2_na (by omega), zy_u2_na (by omega)]
  · rw [if_neg (by omega), if_neg (fun q => h q.2.2), if_neg h, zy_u2_na (by omega), zy_u2_na (by omega)]
theorem zy_tk_85 : zy_tk I c r m y 8 5 = nI m := by unfold zy_tk; rw [zy_u2_nk (by omega), zy_ch_at (by omega) (by omega), zy_u2_nk (by omega), zy_u2_self]
theorem zy_tk_86 : zy_tk I c r m y 8 6 = nI r := by unfold zy_tk; rw [zy_u2_nk (by omega), zy_ch_at (by omega) (by omega), zy_u2_self]
theorem zy_tk_88 : zy_tk I c r m y 8 8 = I 8 8 ^^^ nI c := by unfold zy_tk; rw [zy_u2_self]
theorem zy_tk_el {a k : Nat} (h : a ≠ 9 ∧ a ≠ 10 ∧ ¬ (a = 8 ∧ (k = 5 ∨ k = 6 ∨ k = 8))) : zy_tk I c r m y a k = I a k := by
  unfold zy_tk
  rw [zy_u2_ne (by omega), zy_ch_at (by omega) (by omega), zy_u2_ne (by omega), zy_u2_ne (by omega)]
def zy_mu (I : Nat → Nat → Int32) (c m P : Nat) (x : Int32) : Nat → Nat → Int32 := zy_ns (zy_ch (zx_u2 (zx_u2 I 132 0 0) 132 10 (nI m)) 135 136 c (fun v => v + (-1)) (fun v => 1 - v) P) c x P
theorem zy_mu_134 {x : Int32} {k : Nat} (hk : k < P) : zy_mu I c m P x 134 k = if c.testBit k then x else I 134 k := by
  unfold zy_mu zy_ns
  by_cases h : c.testBit k = true
  · rw [if_pos ⟨rfl, hk, h⟩, if_pos h]
  · rw [if_neg (fun q => h q.2.2), if_neg h, zy_ch_at (by omega) (by omega), zy_u2_na (by omega), zy_u2_na (by omega)]
theorem zy_mu_135 {x : Int32} {k : Nat} (hk : k < P) : zy_mu I c m P x 135 k = if c.testBit k then I 135 k + (-1) else I 135 k := by
  unfold zy_mu zy_ns
  rw [if_neg (by omega)]
  unfold zy_ch
  by_cases h : c.testBit k = true
  · rw [if_pos ⟨rfl, hk, h⟩, if_pos h, zy_u2_na (by omega), zy_u2_na (by omega)]
  · rw [if_neg (fun q => h q.2.2), if_neg (by omega), if_neg h, zy_u2_na (by omega), zy_u2_na (by omega)]
theorem zy_mu_136 {x : Int32} {k : Nat} (hk : k < P) : zy_mu I c m P x 136 k = if c.testBit k then 1 - I 136 k else I 136 k := by
  unfold zy_mu zy_ns
  rw [if_neg (by omega)]
  unfold zy_ch
  by_cases h : c.testBit k = true
  · rw [if_neg (by omega), if_pos ⟨rfl, hk, h⟩, if_pos h, zy_u2_na (by omega), zy_u2_na (by omega)]
  · rw [if_neg (by omega), if_neg (fun q => h q.2.2), if_neg h, zy_u2_na (by omega), zy_u2_na (by omega)]
theorem zy_mu_10 {x : Int32} : zy_mu I c m P x 132 10 = nI m := by unfold zy_mu zy_ns; rw [if_neg (by omega), zy_ch_at (by omega) (by omega), zy_u2_self]
theorem zy_mu_el {x : Int32} {a k : Nat} (h : a ≠ 134 ∧ a ≠ 135 ∧ a ≠ 136 ∧ ¬ (a = 132 ∧ (k = 0 ∨ k = 10))) : zy_mu I c m P x a k = I a k := by
  unfold zy_mu zy_ns
  rw [if_neg (by omega), zy_ch_at (by omega) (by omega), zy_u2_ne (by omega), zy_u2_ne (by omega)]
theorem zc_undo {S b : Nat} {q : Nat × Nat} {H : List (Nat × Nat)} (h : zc_C I P S b r (q :: H)) :
    zc_C (zy_mu (zy_tk I q.1 ((r + 59) % 60) H.length (nI (q.2 % 7))) q.1 H.length P (nI q.2)) P (S ^^^ q.1) b ((r + 59) % 60) H := by
  obtain ⟨⟨hP, h7, h3⟩, his, hn, hz, ⟨hS, h8⟩, ⟨hb1, hb2, hb3, hb4⟩, ⟨hr, h6, hl, h5, h10⟩, hlog, hch⟩ := h
  obtain ⟨g1, g2, g3, g4, g5, g6, g7, g8⟩ := hlog 0 q rfl
  have hP2 : (2 : Nat) ^ P ≤ 1024 := Nat.pow_le_pow_right (by omega) hP
  rw [List.length_cons] at *
  have n9 : ∀ p, p < 10 → zy_tk I q.1 ((r + 59) % 60) H.length (nI (q.2 % 7)) 9 p = if q.1.testBit p then nI q.2 else I 9 p := fun p hp => by
    rw [zy_tk_9 hp]
    by_cases hb : q.1.testBit p = true
    · rw [if_pos hb, if_pos hb, hch.1 p hp hb, show (7 : Int32) = nI 7 by decide, pk_mul, nI_add]
      congr 1; omega
    · rw [if_neg hb, if_neg hb]
  refine ⟨⟨hP, ?_, ?_⟩, fun p hp => ?_, fun p hp => ?_, fun p hp1 hp2 => ?_, ⟨Nat.xor_lt_two_pow hS g1, ?_⟩, ⟨hb1, hb2, ?_, ?_⟩, ⟨by omega, ?_, by omega, ?_, ?_⟩, fun t w hw => ?_, ?_⟩
  · rw [zy_mu_el (by omega), zy_tk_el (by omega)]; exact h7
  · rw [zy_mu_el (by omega), zy_tk_el (by omega)]; exact h3
  · rw [zy_mu_el (by omega), n9 p hp]
    split
    · exact zy_is_mk g2 g4
    · exact his p hp
  · have hp10 : p < 10 := by omega
    obtain ⟨f1, f2, f3⟩ := hn p hp
    refine ⟨?_, ?_, ?_⟩
    · rw [zy_mu_134 hp, zy_mu_el (by omega), zy_tk_el (by omega), n9 p hp10, f1]
    · rw [zy_mu_135 hp, zy_mu_el (by omega), zy_tk_el (by omega), zy_tk_10 hp10, f2, Int32.sub_eq_add_neg]
    · rw [zy_mu_136 hp, zy_tk_el (by omega), f3, Nat.testBit_xor]
      cases S.testBit p <;> cases q.1.testBit p <;> decide
  · obtain ⟨f1, f2⟩ := hz p hp1 hp2
    have hb : ¬ q.1.testBit p = true := fun z => by
      rw [Nat.testBit_lt_two_pow (Nat.lt_of_lt_of_le g1 (Nat.pow_le_pow_right (by omega) hp1))] at z; cases z
    refine ⟨?_, ?_⟩
    · rw [zy_mu_el (by omega), n9 p hp2, if_neg hb]; exact f1
    · rw [zy_mu_el (by omega), zy_tk_10 hp2, if_neg hb]; exact f2
  · rw [zy_mu_el (by omega), zy_tk_88, h8, zy_xor _ _ (by omega) (by omega)]
  · rw [zy_mu_el (by omega), zy_tk_el (by omega)]; exact hb3
  · rw [zy_mu_el (by omega), zy_tk_el (by omega)]; exact hb4
  · rw [zy_mu_el (by omega), zy_tk_86]
  · rw [zy_mu_el (by omega), zy_tk_85]
  · rw [zy_mu_10]
  · have htl : t < H.length := (List.getElem?_eq_some_iff.mp hw).1
    obtain ⟨k1, k2, k3, k4, k5, k6, k7, k8⟩ := hlog (t + 1) w (by simpa using hw)
    rw [zy_mu_el (by omega), zy_tk_el (by omega), zy_mu_el (by omega), zy_tk_el (by omega), zy_mu_el (by omega), zy_tk_el (by omega), zy_mu_el (by omega), zy_tk_el (by omega)]
    rw [show ((r + 59) % 60 + 59 - t) % 60 = (r + 59 - (t + 1)) % 60 by omega, show H.length - 1 - t = H.length + 1 - 1 - (t + 1) by omega]
    exact ⟨k1, k2, k3, k4, k5, k6, k7, k8⟩
  · refine zy_chain_cong H _ _ (fun p hp => ?_) hch.2
    rw [zy_mu_el (by omega), n9 p hp]
theorem zy_tkmu_fr {q : Nat} {x y : Int32} {r' m' : Nat} (hP : P ≤ 10) : zy_fr zw_C I (zy_mu (zy_tk I q r' m' y) q m P x) := by
  intro a k hk
  have g : ∀ j a' lo hi, zw_C[j]? = some (a', lo, hi) → ¬ (a = a' ∧ lo ≤ k ∧ k < hi) := fun j a' lo hi h q => hk (by rw [q.1]; exact zy_in_at j a' lo hi k h q.2.1 q.2.2)
  have g1 := g 0 8 5 9 rfl
  have g2 := g 1 9 0 10 rfl
  have g3 := g 2 10 0 10 rfl
  have g4 := g 5 132 0 1 rfl
  have g5 := g 6 132 10 11 rfl
  have g6 := g 7 134 0 10 rfl
  have g7 := g 8 135 0 10 rfl
  have g8 := g 9 136 0 10 rfl
  unfold zy_mu zy_ns
  rw [if_neg (by omega)]
  unfold zy_ch
  rw [if_neg (by omega), if_neg (by omega), zy_u2_ne (by omega), zy_u2_ne (by omega)]
  unfold zy_tk
  rw [zy_u2_ne (by omega)]
  unfold zy_ch
  rw [if_neg (by omega), if_neg (by omega), zy_u2_ne (by omega), zy_u2_ne (by omega)]
end YU2
section YU3
variable {l : Launch} {E : zx_E} {d : Nat} {I : Nat → Nat → Int32} {L : Nat → Nat → Int64} {Y : zx_Y} {Qo : Option Value → zx_M → Prop} {Q : Int32 → zx_M → Prop} {Qv : zx_M → Prop}
theorem zj_undo (hY : zx_lay Y) {P S b r : Nat} {H : List (Nat × Nat)} (hC : zc_C I P S b r H)
    (hq : ∀ (v : Int32) (I' : Nat → Nat → Int32) (S' r' : Nat) (H' : List (Nat × Nat)), zc_C I' P S' b r' H' → zy_fr zw_C I I' → Q v (I', L, Y)) :
    zx_Ci l E (d + 2) 127 [.ref 3] (I, L, Y) (fun v M1 => zx_lay M1.2.2 ∧ zx_Ci l E (d + 2) 197 [.ref 132] M1 (fun w M2 => w = v ∧ Q v M2)) := by
  have hC0 := hC
  obtain ⟨⟨hP, h7, h3⟩, his, hn, hz, ⟨hS, h8⟩, ⟨hb1, hb2, hb3, hb4⟩, ⟨hr, h6, hl, h5, h10⟩, hlog, hch⟩ := hC
  cases H with
  | nil =>
    refine sg_127_0 hY ?_
    have ht : zy_in zw_C 132 0 := zy_in_at 5 132 0 1 0 rfl (by omega) (by omega)
    have keep : zc_C (zx_u2 I 132 0 0) P S b r [] := zc_C_cong hC0 (zy_fr_on (W := [(132, 0, 1)]) (zy_fr_u2 (zy_fr_rf _ _) (zy_in_at 0 132 0 1 0 rfl (by omega) (by omega))) (by decide))
    refine sg_12_0 hY ⟨fun h => absurd h5 h, fun _ => ⟨_, rfl, hY, fun _ => ⟨_, rfl, hY, ?_⟩, fun h => absurd rfl h⟩⟩
    exact sg_197_0 hY ⟨fun h => absurd h10 h, fun _ => ⟨_, rfl, rfl, hq _ _ S r [] keep (zy_fr_u2 (zy_fr_rf _ _) ht)⟩⟩
  | cons q H =>
    obtain ⟨g1, g2, g3, g4, g5, g6, g7, g8⟩ := hlog 0 q rfl
    have hP2 : (2 : Nat) ^ P ≤ 1024 := Nat.pow_le_pow_right (by omega) hP
    rw [List.length_cons] at *
    have hl' : H.length + 1 ≤ 60 := hl
    refine sg_127_0 hY (zy_c12 hY hr hl' h6 h5 (by omega) g5 g6 ?_)
    rw [if_neg (by omega), Nat.add_sub_cancel]
    refine ⟨hY, fun h => absurd h (by decide), fun _ => ⟨_, rfl, hY, ?_⟩⟩
    refine zy_197 (I := zy_tk I q.1 ((r + 59) % 60) H.length (nI (q.2 % 7))) (m := H.length + 1) hY hP ?_ hl' ?_ (by omega) (c := q.1) ?_ (x := nI q.2) ?_ ?_
    · rw [zy_tk_el (by omega)]; exact h3
    · rw [zy_tk_el (by omega)]; exact h10
    · rw [zy_tk_el (by omega)]; exact g8
    · rw [zy_tk_el (by omega)]; exact g7
    · rw [if_neg (by omega), Nat.add_sub_cancel]
      refine ⟨?_, hq _ _ _ _ _ (zc_undo hC0) (zy_tkmu_fr hP)⟩
      show nI H.length = zy_tk I q.1 ((r + 59) % 60) H.length (nI (q.2 % 7)) 8 5
      rw [zy_tk_85]
end YU3
