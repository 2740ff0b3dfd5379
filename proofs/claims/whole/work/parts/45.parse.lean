/-! ===== orders: what is read ===== -/
abbrev zo_P : Type := List (Nat × Nat × Nat)
/-- (kind, what, how many entries its block has) -/
def zo_one (c : Nat) (r : zo_P) : zo_P := (0, c, 0) :: r
def zo_all (c : Nat) (r : zo_P) : zo_P := (1, c, 0) :: r
def zo_blk (k w : Nat) (b r : zo_P) : zo_P := (k, w, b.length) :: (b ++ r)
def zo_gr (T : Nat → Nat) (to g : Nat) (rb : Nat → Bool × Nat × zo_P) (j : Nat) (h : zo_P → zo_P → zo_P) : Bool × Nat × (zo_P → zo_P) :=
  if g = 0 then (false, j, id) else if zt_s T to j = 40 then (if (rb (j + 1)).1 then (if zt_s T to (rb (j + 1)).2.1 = 41 then (true, (rb (j + 1)).2.1 + 1, h (rb (j + 1)).2.2) else (false, (rb (j + 1)).2.1, id)) else (false, (rb (j + 1)).2.1, id)) else (false, j, id)
def zo_st (T : Nat → Nat) (to g : Nat) (rb : Nat → Bool × Nat × zo_P) (i : Nat) : Bool × Nat × (zo_P → zo_P) :=
  if zt_dig (zt_s T to i) then zo_gr T to g rb (i + 1) (zo_blk 2 (T i - 48))
  else if zt_s T to i = 126 then (if (zt_run T to 8 (i + 1) 0).1 = 0 then (false, (zt_run T to 8 (i + 1) 0).2, id) else zo_gr T to g rb (zt_run T to 8 (i + 1) 0).2 (zo_blk 3 (zt_run T to 8 (i + 1) 0).1))
  else if zt_s T to (zt_run T to 8 i 0).2 = 42 then (true, (zt_run T to 8 i 0).2 + 1, zo_all (zt_run T to 8 i 0).1)
  else if (zt_run T to 8 i 0).1 = 0 then (false, (zt_run T to 8 i 0).2, id) else (true, (zt_run T to 8 i 0).2, zo_one (zt_run T to 8 i 0).1)
def zo_ps (T : Nat → Nat) (to : Nat) : Nat → Nat → Nat → Bool × Nat × zo_P
  | 0, _, i => (false, i, [])
  | f + 1, g, i =>
    if (zo_st T to g (zo_ps T to f (g - 1)) i).1 then
      (if zt_s T to (zo_st T to g (zo_ps T to f (g - 1)) i).2.1 = 59 then ((zo_ps T to f g ((zo_st T to g (zo_ps T to f (g - 1)) i).2.1 + 1)).1, (zo_ps T to f g ((zo_st T to g (zo_ps T to f (g - 1)) i).2.1 + 1)).2.1, (zo_st T to g (zo_ps T to f (g - 1)) i).2.2 (zo_ps T to f g ((zo_st T to g (zo_ps T to f (g - 1)) i).2.1 + 1)).2.2)
       else (true, (zo_st T to g (zo_ps T to f (g - 1)) i).2.1, (zo_st T to g (zo_ps T to f (g - 1)) i).2.2 []))
    else (false, (zo_st T to g (zo_ps T to f (g - 1)) i).2.1, [])
/-- places grow -/
theorem zo_gr_ok {T : Nat → Nat} {to g j : Nat} {rb : Nat → Bool × Nat × zo_P} {h : zo_P → zo_P → zo_P} (hj : j ≤ to) (hrb : ∀ i, i ≤ to → i ≤ (rb i).2.1 ∧ (rb i).2.1 ≤ to) : j ≤ (zo_gr T to g rb j h).2.1 ∧ (zo_gr T to g rb j h).2.1 ≤ to := by
  unfold zo_gr
  split
  · exact ⟨Nat.le_refl _, hj⟩
  · split
    · rename_i h40
      have h1 := (zt_s_lt h40 (by omega)).1
      obtain ⟨a, b⟩ := hrb (j + 1) (by omega)
      split
      · split
        · rename_i h41
          have h2 := (zt_s_lt h41 (by omega)).1
          exact ⟨by show j ≤ (rb (j + 1)).2.1 + 1; omega, by show (rb (j + 1)).2.1 + 1 ≤ to; omega⟩
        · exact ⟨by show j ≤ (rb (j + 1)).2.1; omega, b⟩
      · exact ⟨by show j ≤ (rb (j + 1)).2.1; omega, b⟩
    · exact ⟨Nat.le_refl _, hj⟩
theorem zo_st_ok {T : Nat → Nat} {to g i : Nat} {rb : Nat → Bool × Nat × zo_P} (hi : i ≤ to) (hrb : ∀ i, i ≤ to → i ≤ (rb i).2.1 ∧ (rb i).2.1 ≤ to) : i ≤ (zo_st T to g rb i).2.1 ∧ (zo_st T to g rb i).2.1 ≤ to ∧ ((zo_st T to g rb i).1 = true → i < (zo_st T to g rb i).2.1) := by
  obtain ⟨r1, r2, r3, r4, r5, r6, r7⟩ := zt_run_ok (T := T) (to := to) 8 i 0 hi zy_dig_0 (by decide) (Nat.le_refl _)
  rw [zy_len_0, Nat.zero_add] at r6
  unfold zo_st
  split
  · rename_i hd
    have h1 := (zt_dig_lt hd).1
    obtain ⟨a, b⟩ := zo_gr_ok (g := g) (h := zo_blk 2 (T i - 48)) (show i + 1 ≤ to by omega) hrb
    exact ⟨by omega, b, fun _ => by omega⟩
  · split
    · rename_i h126
      have h1 := (zt_s_lt h126 (by omega)).1
      obtain ⟨q1, q2, q3, q4, q5, q6, q7⟩ := zt_run_ok (T := T) (to := to) 8 (i + 1) 0 (by omega) zy_dig_0 (by decide) (Nat.le_refl _)
      split
      · exact ⟨by show i ≤ (zt_run T to 8 (i + 1) 0).2; omega, q3, fun q => by cases q⟩
      · obtain ⟨a, b⟩ := zo_gr_ok (g := g) (h := zo_blk 3 (zt_run T to 8 (i + 1) 0).1) q3 hrb
        exact ⟨by omega, b, fun _ => by omega⟩
    · split
      · rename_i h42
        have h1 := (zt_s_lt h42 (by omega)).1
        exact ⟨by show i ≤ (zt_run T to 8 i 0).2 + 1; omega, by show (zt_run T to 8 i 0).2 + 1 ≤ to; omega, fun _ => by show i < (zt_run T to 8 i 0).2 + 1; omega⟩
      · split
        · exact ⟨r4, r3, fun q => by cases q⟩
        · rename_i h0
          have : zy_len (zt_run T to 8 i 0).1 ≠ 0 := fun q => h0 (zy_len_pos.mp q)
          exact ⟨r4, r3, fun _ => by show i < (zt_run T to 8 i 0).2; omega⟩
theorem zo_ps_ok {T : Nat → Nat} {to : Nat} : ∀ (f g i : Nat), i ≤ to → i ≤ (zo_ps T to f g i).2.1 ∧ (zo_ps T to f g i).2.1 ≤ to
  | 0, _, i, hi => ⟨Nat.le_refl _, hi⟩
  | f + 1, g, i, hi => by
    obtain ⟨a, b, c⟩ := zo_st_ok (T := T) (g := g) (rb := zo_ps T to f (g - 1)) hi (fun k hk => zo_ps_ok f (g - 1) k hk)
    rw [zo_ps]
    split
    · split
      · rename_i h59
        have h1 := (zt_s_lt h59 (by omega)).1
        obtain ⟨x, y⟩ := zo_ps_ok (T := T) (to := to) f g ((zo_st T to g (zo_ps T to f (g - 1)) i).2.1 + 1) (by omega)
        exact ⟨by show i ≤ (zo_ps T to f g ((zo_st T to g (zo_ps T to f (g - 1)) i).2.1 + 1)).2.1; omega, y⟩
      · exact ⟨a, b⟩
    · exact ⟨a, b⟩
/-- a program in the class's rows, from a on -/
def zo_A (J : Nat → Nat → Int32) (a : Nat) (p : zo_P) : Prop := ∀ (k : Nat) (q : Nat × Nat × Nat), p[k]? = some q → J 18 (a + k) = nI q.1 ∧ J 19 (a + k) = nI q.2.1 ∧ J 20 (a + k) = nI (a + k + 1 + q.2.2)
theorem zo_A_nil {J : Nat → Nat → Int32} {a : Nat} : zo_A J a [] := fun k q h => by simp at h
theorem zo_A_cons {J : Nat → Nat → Int32} {a : Nat} {q : Nat × Nat × Nat} {p : zo_P} : zo_A J a (q :: p) ↔ (J 18 a = nI q.1 ∧ J 19 a = nI q.2.1 ∧ J 20 a = nI (a + 1 + q.2.2)) ∧ zo_A J (a + 1) p := by
  constructor
  · intro h
    refine ⟨h 0 q rfl, fun k z hz => ?_⟩
    have := h (k + 1) z (by simpa using hz)
    rw [show a + (k + 1) = a + 1 + k by omega] at this
    exact this
  · rintro ⟨h1, h2⟩ k z hz
    cases k with
    | zero => cases hz; exact h1
    | succ k =>
      have := h2 k z (by simpa using hz)
      rw [show a + 1 + k = a + (k + 1) by omega] at this
      exact this
theorem zo_A_app {J : Nat → Nat → Int32} {a : Nat} {p r : zo_P} : zo_A J a (p ++ r) ↔ zo_A J a p ∧ zo_A J (a + p.length) r := by
  constructor
  · intro h
    refine ⟨fun k z hz => h k z ?_, fun k z hz => ?_⟩
    · rw [List.getElem?_append_left (List.getElem?_eq_some_iff.mp hz).1]; exact hz
    · have := h (p.length + k) z (by rw [List.getElem?_append_right (by omega), show p.length + k - p.length = k by omega]; exact hz)
      rw [← Nat.add_assoc] at this
      exact this
  · rintro ⟨h1, h2⟩ k z hz
    by_cases hk : k < p.length
    · rw [List.getElem?_append_left hk] at hz; exact h1 k z hz
    · rw [List.getElem?_append_right (by omega)] at hz
      have := h2 (k - p.length) z hz
      rw [show a + p.length + (k - p.length) = a + k by omega] at this
      exact this
theorem zo_A_cong {J K : Nat → Nat → Int32} {p : zo_P} {a : Nat} (h : zo_A J a p) (hk : ∀ k, a ≤ k → k < a + p.length → K 18 k = J 18 k ∧ K 19 k = J 19 k ∧ K 20 k = J 20 k) : zo_A K a p := fun k q hq => by
  have hl := (List.getElem?_eq_some_iff.mp hq).1
  obtain ⟨k1, k2, k3⟩ := hk (a + k) (by omega) (by omega)
  rw [k1, k2, k3]; exact h k q hq
def zw_or : List (Nat × Nat × Nat) := [(4, 2, 6), (17, 6, 7), (18, 0, 60), (19, 0, 60), (20, 0, 60)]
/-- rows below a stay -/
def zo_bel (J K : Nat → Nat → Int32) (a b : Nat) : Prop := ∀ k, a ≤ k → k < b → K 18 k = J 18 k ∧ K 19 k = J 19 k ∧ K 20 k = J 20 k
theorem zo_bel_tr {J K M : Nat → Nat → Int32} {a b c e : Nat} (h1 : zo_bel J K c e) (h2 : zo_bel K M a b) (hc : c ≤ a) (he : b ≤ e) : zo_bel J M a b := fun k x y => by
  obtain ⟨a1, a2, a3⟩ := h2 k x y
  obtain ⟨b1, b2, b3⟩ := h1 k (by omega) (by omega)
  exact ⟨a1.trans b1, a2.trans b2, a3.trans b3⟩
section YPr
variable {l : Launch} {E : zx_E} {d : Nat} {I : Nat → Nat → Int32} {L : Nat → Nat → Int64} {Y : zx_Y} {Qo : Option Value → zx_M → Prop} {Q : Int32 → zx_M → Prop} {Qv : zx_M → Prop} {T : Nat → Nat} {n i to : Nat}
/-- put -/
def zo_put (I : Nat → Nat → Int32) (a : Nat) (k w : Int32) : Nat → Nat → Int32 := zx_u2 (zx_u2 (zx_u2 (zx_u2 I 18 a k) 19 a w) 17 6 (nI (a + 1))) 20 a (nI (a + 1))
theorem zy_c64 (hY : zx_lay Y) {a : Nat} (ha : a < 60) (h6 : I 17 6 = nI a) {k w : Int32} (hq : Q 1 (zo_put I a k w, L, Y)) : zx_Ci l E d 64 [.ref 17, .int k, .int w] (I, L, Y) Q := by
  have hv := vp_in_nI (n := a) (N := 60) ha (by omega)
  have e1 : nI (a + 1) - 1 = nI a := nI_pred a
  refine sg_64_0 hY _ _ ?_
  rw [h6, nI_1, e1, nI_clamp (by omega)]
  exact ⟨fun h => absurd h (nI_pos (by omega)), fun _ => ⟨fun _ => ⟨hv, hv, hv, _, rfl, hq⟩, fun h => absurd ((nI_ltI (b := 60) (by omega) (by omega)).mpr ha) h⟩⟩
theorem zo_put_fr {a : Nat} (ha : a < 60) {k w : Int32} : zy_fr zw_or I (zo_put I a k w) := by
  unfold zo_put
  refine zy_fr_u2 (zy_fr_u2 (zy_fr_u2 (zy_fr_u2 (zy_fr_rf _ _) ?_) ?_) ?_) ?_
  · exact zy_in_at 2 18 0 60 a rfl (by omega) ha
  · exact zy_in_at 3 19 0 60 a rfl (by omega) ha
  · exact zy_in_at 1 17 6 7 6 rfl (by omega) (by omega)
  · exact zy_in_at 4 20 0 60 a rfl (by omega) ha
theorem zo_put_at {a : Nat} {k w : Int32} : zo_put I a k w 18 a = k ∧ zo_put I a k w 19 a = w ∧ zo_put I a k w 20 a = nI (a + 1) ∧ zo_put I a k w 17 6 = nI (a + 1) := by
  unfold zo_put
  refine ⟨?_, ?_, ?_, ?_⟩
  · rw [zy_u2_na (by omega), zy_u2_na (by omega), zy_u2_na (by omega), zy_u2_self]
  · rw [zy_u2_na (by omega), zy_u2_na (by omega), zy_u2_self]
  · rw [zy_u2_self]
  · rw [zy_u2_na (by omega), zy_u2_self]
theorem zo_put_bel {a : Nat} {k w : Int32} : zo_bel I (zo_put I a k w) 0 a := fun j _ hj => by
  unfold zo_put
  refine ⟨?_, ?_, ?_⟩
  · rw [zy_u2_na (by omega), zy_u2_na (by omega), zy_u2_na (by omega), zy_u2_nk (by omega)]
  · rw [zy_u2_na (by omega), zy_u2_na (by omega), zy_u2_nk (by omega), zy_u2_na (by omega)]
  · rw [zy_u2_nk (by omega), zy_u2_na (by omega), zy_u2_na (by omega), zy_u2_na (by omega)]
theorem zo_put_C {a : Nat} {k w : Int32} {lim : Nat} (hC : zt_C I T n lim i) : zt_C (zo_put I a k w) T n lim i := by
  obtain ⟨⟨h1, h2, h3⟩, h4⟩ := hC
  unfold zo_put
  refine ⟨⟨?_, ?_, ?_⟩, fun j hj => ?_⟩
  · rw [zy_u2_na (by omega), zy_u2_na (by omega), zy_u2_na (by omega), zy_u2_na (by omega)]; exact h1
  · rw [zy_u2_na (by omega), zy_u2_na (by omega), zy_u2_na (by omega), zy_u2_na (by omega)]; exact h2
  · rw [zy_u2_na (by omega), zy_u2_na (by omega), zy_u2_na (by omega), zy_u2_na (by omega)]; exact h3
  · rw [zy_u2_na (by omega), zy_u2_na (by omega), zy_u2_na (by omega), zy_u2_na (by omega)]; exact h4 j hj
theorem zo_43 {x : Int32} : zy_fr zw_or I (zx_u2 I 4 3 x) := zy_fr_u2 (zy_fr_rf _ _) (zy_in_at 0 4 2 6 3 rfl (by omega) (by omega))
theorem zo_43b {x : Int32} {a b : Nat} : zo_bel I (zx_u2 I 4 3 x) a b := fun k _ _ => ⟨zy_u2_na (by omega), zy_u2_na (by omega), zy_u2_na (by omega)⟩
/-- what steps ask of a memory behind them -/
def zo_okS (I J : Nat → Nat → Int32) (T : Nat → Nat) (n a j b : Nat) : Prop := zy_fr zw_or I J ∧ zt_C J T n 60 j ∧ J 17 6 = nI b ∧ b ≤ j ∧ a < b ∧ zo_bel I J 0 a
theorem zo_okS_tr {I J K : Nat → Nat → Int32} {a a1 j k b c : Nat} (h1 : zy_fr zw_or I J) (h2 : zo_bel I J 0 a) (h : zo_okS J K T n a1 k c) (ha : a ≤ a1) : zo_okS I K T n a k c := by
  obtain ⟨g1, g2, g3, g4, g5, g6⟩ := h
  exact ⟨zy_fr_tr h1 g1, g2, g3, g4, by omega, zo_bel_tr h2 (fun k x y => g6 k x (by omega)) (Nat.le_refl _) (Nat.le_refl _)⟩
/-- the contract of the class's readSteps, from the first step on -/
def zo_c61 (l : Launch) (E : zx_E) (L : Nat → Nat → Int64) (Y : zx_Y) (T : Nat → Nat) (n f g : Nat) : Prop :=
  ∀ (d i a : Nat) (I : Nat → Nat → Int32) (Q : Int32 → zx_M → Prop), min n 60 < f + i → i ≤ min n 60 → a ≤ i → zt_C I T n 60 i → I 17 6 = nI a →
    ((zo_ps T (min n 60) f g i).1 = false → ∀ J, zy_fr zw_or I J → zt_C J T n 60 (zo_ps T (min n 60) f g i).2.1 → Q 0 (J, L, Y)) →
    ((zo_ps T (min n 60) f g i).1 = true → ∀ J b, zo_okS I J T n a (zo_ps T (min n 60) f g i).2.1 b → b = a + (zo_ps T (min n 60) f g i).2.2.length → zo_A J a (zo_ps T (min n 60) f g i).2.2 → Q 1 (J, L, Y)) →
    zx_Ci l E (d + 3 * g + 4) 61 [.ref 17, .int (nI (4 - g))] (I, L, Y) Q
theorem zy_c63 (hY : zx_lay Y) (hk : zt_ok T n 60) {f g : Nat} (hg : g ≤ 4) (h61 : g ≠ 0 → zo_c61 l E L Y T n f (g - 1)) {a j : Nat} (hf : min n 60 < f + j + 1) (hj : j ≤ min n 60) (haj : a < j) (hC : zt_C I T n 60 j) (h6 : I 17 6 = nI a) {kd w : Nat}
    (q0 : (zo_gr T (min n 60) g (zo_ps T (min n 60) f (g - 1)) j (zo_blk kd w)).1 = false → ∀ J, zy_fr zw_or I J → zt_C J T n 60 (zo_gr T (min n 60) g (zo_ps T (min n 60) f (g - 1)) j (zo_blk kd w)).2.1 → Q 0 (J, L, Y))
    (q1 : (zo_gr T (min n 60) g (zo_ps T (min n 60) f (g - 1)) j (zo_blk kd w)).1 = true → ∀ J b, zo_okS I J T n a (zo_gr T (min n 60) g (zo_ps T (min n 60) f (g - 1)) j (zo_blk kd w)).2.1 b → (∀ K, zo_bel J K a b → ∀ r, zo_A K b r → zo_A K a ((zo_gr T (min n 60) g (zo_ps T (min n 60) f (g - 1)) j (zo_blk kd w)).2.2 r)) → (∀ r, ((zo_gr T (min n 60) g (zo_ps T (min n 60) f (g - 1)) j (zo_blk kd w)).2.2 r).length = b - a + r.length) → Q 1 (J, L, Y)) :
    zx_Ci l E (d + 3 * g + 2) 63 [.ref 17, .int (nI kd), .int (nI w), .int (nI (4 - g))] (I, L, Y) Q := by
  have hn80 := hk.1
  have e4 : (4 : Int32) ≤ nI (4 - g) ↔ g = 0 := by
    rw [show (4 : Int32) = nI 4 by decide, nI_leI (by omega) (by omega)]; omega
  unfold zo_gr at q0 q1
  cases g with
  | zero =>
    rw [if_pos rfl] at q0
    refine sg_63_0 hY _ _ _ ⟨fun _ => ⟨_, rfl, q0 rfl I (zy_fr_rf _ _) hC⟩, fun h => absurd (e4.mpr rfl) h⟩
  | succ g =>
    rw [if_neg (by omega), show g + 1 - 1 = g by omega] at q0 q1
    have h61' := h61 (by omega)
    rw [show g + 1 - 1 = g by omega] at h61'
    refine sg_63_0 hY _ _ _ ⟨fun h => absurd (e4.mp h) (by omega), fun _ => zy_114 hY hk (by omega) hC (s := 40) (by omega) ?_⟩
    split
    · rename_i h40
      have hlt := (zt_s_lt h40 (by omega)).1
      rw [if_pos h40] at q0 q1
      refine ⟨hY, fun _ => ?_, fun q => absurd q (by decide)⟩
      have hC1 := zt_C_at (j := j + 1) hC
      have h61c : zx_u2 I 4 3 (nI (j + 1)) 17 6 = nI a := by rw [zy_u2_na (by omega)]; exact h6
      refine zy_c64 (I := zx_u2 I 4 3 (nI (j + 1))) hY (by omega) h61c ⟨hY, fun q => absurd q (by decide), fun _ => ?_⟩
      have hCp := zo_put_C (a := a) (k := nI kd) (w := nI w) hC1
      obtain ⟨p1, p2, p3, p4⟩ := zo_put_at (I := zx_u2 I 4 3 (nI (j + 1))) (a := a) (k := nI kd) (w := nI w)
      have frp : zy_fr zw_or I (zo_put (zx_u2 I 4 3 (nI (j + 1))) a (nI kd) (nI w)) := zy_fr_tr zo_43 (zo_put_fr (by omega))
      have blp : zo_bel I (zo_put (zx_u2 I 4 3 (nI (j + 1))) a (nI kd) (nI w)) 0 a := zo_bel_tr (zo_43b (a := 0) (b := a)) zo_put_bel (Nat.le_refl _) (Nat.le_refl _)
      generalize zo_put (zx_u2 I 4 3 (nI (j + 1))) a (nI kd) (nI w) = J1 at *
      have e5 : nI (4 - (g + 1)) + 1 = nI (4 - g) := by rw [nI_1, show 4 - (g + 1) + 1 = 4 - g by omega]
      rw [e5]
      have rb := zo_ps_ok (T := T) (to := min n 60) f g (j + 1) (by omega)
      refine h61' d (j + 1) (a + 1) J1 _ (by omega) (by omega) (by omega) hCp p4 (fun hb J hJ hCJ => ⟨hY, fun _ => ⟨_, rfl, ?_⟩, fun q => absurd rfl q⟩) (fun hb J b hok hbl hA => ⟨hY, fun q => absurd q (by decide), fun _ => ?_⟩)
      · rw [if_neg (by rw [hb]; decide)] at q0
        exact q0 rfl J (zy_fr_tr frp hJ) hCJ
      · rw [if_pos hb] at q0 q1
        obtain ⟨o1, o2, o3, o4, o5, o6⟩ := hok
        refine zy_114 (I := J) hY hk (by omega) o2 (s := 41) (by omega) ?_
        split
        · rename_i h41
          have hlt2 := (zt_s_lt h41 (by omega)).1
          rw [if_pos h41] at q1
          refine ⟨hY, fun _ => ?_, fun q => absurd q (by decide)⟩
          have e17 : zx_u2 I 4 3 (nI (j + 1)) 17 6 = nI a := h61c
          have e17b : zx_u2 J 4 3 (nI ((zo_ps T (min n 60) f g (j + 1)).2.1 + 1)) 17 6 = nI b := by rw [zy_u2_na (by omega)]; exact o3
          dsimp only
          rw [e17, e17b, nI_clamp (by omega)]
          refine ⟨fun q => absurd q (nI_pos (by omega)), fun _ => ⟨fun _ => ⟨vp_in_nI (by omega) (by omega), _, rfl, ?_⟩, fun q => absurd ((nI_ltI (b := 60) (by omega) (by omega)).mpr (by omega)) q⟩⟩
          have hb60 : b ≤ 60 := by omega
          refine q1 rfl _ b ⟨zy_fr_u2 (zy_fr_tr (zy_fr_tr frp o1) zo_43) (zy_in_at 4 20 0 60 a rfl (by omega) (by omega)), ?_, ?_, by show b ≤ (zo_ps T (min n 60) f g (j + 1)).2.1 + 1; omega, by omega, fun k _ hka => ?_⟩ (fun K hK r hr => ?_) (fun r => ?_)
          · have := zt_C_at (j := (zo_ps T (min n 60) f g (j + 1)).2.1 + 1) o2
            refine zt_C_cong hn80 this (fun x y hxy => ?_)
            have hin : x = 4 ∨ x = 5 := by
              obtain ⟨w, hw, e1, e2, e3⟩ := hxy
              simp only [List.mem_cons, List.not_mem_nil, or_false] at hw
              rcases hw with rfl | rfl <;> simp at e1 <;> omega
            rw [zy_u2_na (by omega)]
          · rw [zy_u2_na (by omega)]; exact e17b
          · obtain ⟨z1, z2, z3⟩ := blp k (Nat.zero_le _) hka
            obtain ⟨y1, y2, y3⟩ := o6 k (Nat.zero_le _) (by omega)
            refine ⟨?_, ?_, ?_⟩
            · rw [zy_u2_na (by omega), zy_u2_na (by omega), y1, z1]
            · rw [zy_u2_na (by omega), zy_u2_na (by omega), y2, z2]
            · rw [zy_u2_nk (by omega), zy_u2_na (by omega), y3, z3]
          · obtain ⟨y1, y2, y3⟩ := o6 a (Nat.zero_le _) (by omega)
            obtain ⟨x1, x2, x3⟩ := hK a (Nat.le_refl _) (by omega)
            refine zo_A_cons.mpr ⟨⟨?_, ?_, ?_⟩, zo_A_app.mpr ⟨zo_A_cong hA (fun k ka kb => ?_), ?_⟩⟩
            · rw [x1, zy_u2_na (by omega), zy_u2_na (by omega), y1, p1]
            · rw [x2, zy_u2_na (by omega), zy_u2_na (by omega), y2, p2]
            · rw [x3, zy_u2_self, hbl]
            · obtain ⟨w1, w2, w3⟩ := hK k (by omega) (by omega)
              refine ⟨?_, ?_, ?_⟩
              · rw [w1, zy_u2_na (by omega), zy_u2_na (by omega)]
              · rw [w2, zy_u2_na (by omega), zy_u2_na (by omega)]
              · rw [w3, zy_u2_nk (by omega), zy_u2_na (by omega)]
            · rw [← hbl]; exact hr
          · show (_ :: ((zo_ps T (min n 60) f g (j + 1)).2.2 ++ r)).length = _
            rw [List.length_cons, List.length_append]; omega
        · rename_i h41
          rw [if_neg h41] at q0
          exact ⟨hY, fun q => absurd rfl q, fun _ => ⟨_, rfl, q0 rfl J (zy_fr_tr frp o1) o2⟩⟩
    · rename_i h40
      rw [if_neg h40] at q0
      exact ⟨hY, fun q => absurd rfl q, fun _ => ⟨_, rfl, q0 rfl I (zy_fr_rf _ _) hC⟩⟩
end YPr
