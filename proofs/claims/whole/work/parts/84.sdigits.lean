/-! ===== search: states as digits; the reference's small methods ===== -/
def zg_c : Nat → (Nat → Nat) → Nat
  | 0, _ => 0
  | P + 1, g => zg_c P g + g P * 16 ^ P
theorem zg_c_lt {g : Nat → Nat} : ∀ {P : Nat}, (∀ p, p < P → g p < 16) → zg_c P g < 16 ^ P
  | 0, _ => Nat.lt_succ_self 0
  | P + 1, h => by
    have h1 := zg_c_lt (g := g) (P := P) (fun p hp => h p (by omega))
    have h2 := h P (by omega)
    have h3 : g P * 16 ^ P ≤ 15 * 16 ^ P := Nat.mul_le_mul_right _ (by omega)
    rw [zg_c, Nat.pow_succ]; omega
theorem zg_c_cong {g g' : Nat → Nat} : ∀ {P : Nat}, (∀ p, p < P → g p = g' p) → zg_c P g = zg_c P g'
  | 0, _ => rfl
  | P + 1, h => by rw [zg_c, zg_c, zg_c_cong (P := P) (fun p hp => h p (by omega)), h P (by omega)]
theorem zg_d_lt {s p : Nat} : zg_d s p < 16 := Nat.mod_lt _ (by omega)
theorem zg_d_hi {s p P : Nat} (h : s < 16 ^ P) (hp : P ≤ p) : zg_d s p = 0 := by
  unfold zg_d
  rw [Nat.div_eq_of_lt (Nat.lt_of_lt_of_le h (Nat.pow_le_pow_right (by omega) hp))]
theorem zg_d_c {g : Nat → Nat} : ∀ {P : Nat}, (∀ p, p < P → g p < 16) → ∀ p, p < P → zg_d (zg_c P g) p = g p
  | 0, _, p, hp => by omega
  | P + 1, h, p, hp => by
    have h1 := zg_c_lt (g := g) (P := P) (fun p hp => h p (by omega))
    rw [zg_c]
    by_cases e : p = P
    · subst e
      unfold zg_d
      rw [Nat.add_mul_div_right _ _ (Nat.pow_pos (by omega)), Nat.div_eq_of_lt h1, Nat.zero_add, Nat.mod_eq_of_lt (h p (by omega))]
    · have ih := zg_d_c (g := g) (P := P) (fun p hp => h p (by omega)) p (by omega)
      unfold zg_d at *
      rw [show 16 ^ P = 16 ^ p * (16 ^ (P - p - 1) * 16) by rw [← Nat.pow_succ, ← Nat.pow_add]; congr 1; omega]
      rw [show g P * (16 ^ p * (16 ^ (P - p - 1) * 16)) = 16 ^ p * (g P * 16 ^ (P - p - 1) * 16) by rw [Nat.mul_left_comm, Nat.mul_assoc]]
      rw [Nat.add_mul_div_left _ _ (Nat.pow_pos (by omega)), Nat.add_mul_mod_self_right]
      exact ih
theorem zg_c_d : ∀ {P s : Nat}, zg_c P (zg_d s) = s % 16 ^ P
  | 0, s => by rw [Nat.pow_zero, Nat.mod_one]; rfl
  | P + 1, s => by
    rw [zg_c, zg_c_d (P := P) (s := s), Nat.pow_succ, Nat.mod_mul, zg_d, Nat.mul_comm]
theorem zg_ext {s t P : Nat} (hs : s < 16 ^ P) (ht : t < 16 ^ P) (h : ∀ p, p < P → zg_d s p = zg_d t p) : s = t := by
  have e := zg_c_cong (P := P) h
  rw [zg_c_d, zg_c_d, Nat.mod_eq_of_lt hs, Nat.mod_eq_of_lt ht] at e
  exact e
theorem zg_c_sub {g e : Nat → Nat} : ∀ {P : Nat}, (∀ p, p < P → e p ≤ g p) → zg_c P (fun p => g p - e p) + zg_c P e = zg_c P g
  | 0, _ => rfl
  | P + 1, h => by
    have ih := zg_c_sub (g := g) (e := e) (P := P) (fun p hp => h p (by omega))
    have h2 := h P (by omega)
    have h3 : (g P - e P) * 16 ^ P + e P * 16 ^ P = g P * 16 ^ P := by rw [← Nat.add_mul]; congr 1; omega
    rw [zg_c, zg_c, zg_c]; omega
/-- the name of p in a state -/
def zg_n (f : Nat → Nat) (s p : Nat) : Nat := zy_pf (f p) (zg_d s p)
/-- who answers as p is called -/
def zg_m (f : Nat → Nat) (P s p : Nat) : Nat → Bool := fun q => decide (q < P) && decide (zg_n f s q = zg_n f s p)
/-- the state behind -/
def zg_mv (P s : Nat) (m : Nat → Bool) : Nat := zg_c P (fun q => zg_d s q - if m q then 1 else 0)
def zg_bt (m : Nat → Bool) : Nat → Nat := fun q => if m q then 1 else 0
/-- a state -/
def zg_S (f : Nat → Nat) (P s : Nat) : Prop := s < 16 ^ P ∧ ∀ p, p < P → zg_d s p ≤ zy_len (f p)
theorem zg_40 {P s : Nat} (hP : P ≤ 10) (h : s < 16 ^ P) : s < 2 ^ 40 := Nat.lt_of_lt_of_le h (Nat.le_trans (Nat.pow_le_pow_right (by omega) hP) (by decide))
/-- p can be called -/
def zg_e (f : Nat → Nat) (P b s p : Nat) : Bool := decide (0 < zg_d s p) && (decide (zy_low (zy_orN (zg_m f P s p) P) = p) && decide (zy_cnt (zg_m f P s p) P ≤ b))
def zg_nx (f : Nat → Nat) (P b s : Nat) : List Nat := (List.range P).map (fun p => if zg_e f P b s p then zg_mv P s (zg_m f P s p) else s)
theorem zg_m_pos {f : Nat → Nat} {P s p q : Nat} (hS : zg_S f P s) (hp : p < P) (h0 : 0 < zg_d s p) (hm : zg_m f P s p q = true) : 1 ≤ zg_d s q := by
  unfold zg_m at hm
  rw [Bool.and_eq_true, decide_eq_true_eq, decide_eq_true_eq] at hm
  have e := congrArg zy_len hm.2
  unfold zg_n at e
  rw [zy_len_pf, zy_len_pf] at e
  have h1 := hS.2 p hp
  have h2 := hS.2 q hm.1
  omega
theorem zg_mv_d {P s q : Nat} {m : Nat → Bool} (hq : q < P) : zg_d (zg_mv P s m) q = zg_d s q - zg_bt m q := by
  unfold zg_mv
  rw [zg_d_c (fun p hp => ?_) q hq]
  · rfl
  · have := zg_d_lt (s := s) (p := p); omega
theorem zg_mv_lt {P s : Nat} {m : Nat → Bool} : zg_mv P s m < 16 ^ P := zg_c_lt (fun p hp => by have := zg_d_lt (s := s) (p := p); omega)
theorem zg_mv_S {f : Nat → Nat} {P s : Nat} {m : Nat → Bool} (h : zg_S f P s) : zg_S f P (zg_mv P s m) :=
  ⟨zg_mv_lt, fun p hp => by rw [zg_mv_d hp]; have := h.2 p hp; omega⟩
theorem zg_mv_sub {P s : Nat} {m : Nat → Bool} (hs : s < 16 ^ P) (h : ∀ q, q < P → m q = true → 1 ≤ zg_d s q) : zg_mv P s m + zg_c P (zg_bt m) = s := by
  have := zg_c_sub (g := zg_d s) (e := zg_bt m) (P := P) (fun p hp => by
    unfold zg_bt
    cases e : m p with
    | true => rw [if_pos rfl]; exact h p hp e
    | false => rw [if_neg (by decide)]; omega)
  rw [zg_c_d, Nat.mod_eq_of_lt hs] at this
  exact this
section YRa
variable {l : Launch} {E : zx_E} {d : Nat} {I : Nat → Nat → Int32} {L : Nat → Nat → Int64} {Y : zx_Y} {Qo : Option Value → zx_M → Prop} {Q : Int32 → zx_M → Prop} {Ql : Int64 → zx_M → Prop} {Qv : zx_M → Prop} {P b s p : Nat} {f : Nat → Nat}
theorem zy_219 (hY : zx_lay Y) (hs : s < 2 ^ 63) (hp : p < 10) (hq : Q (nI (zg_d s p)) (I, L, Y)) : zx_Ci l E d 219 [.long (nL s), .int (nI p)] (I, L, Y) Q := by
  refine sg_219_0 hY _ _ ?_
  rw [nL_dig hs hp]
  exact ⟨_, rfl, hq⟩
theorem zy_231 (hY : zx_lay Y) (hs : s < 2 ^ 63) (hp : p < 10) (hq : Q (nI (zg_d s p)) (I, L, Y)) : zx_Ci l E d 231 [.long (nL s), .int (nI p)] (I, L, Y) Q := by
  refine sg_231_0 hY _ _ ?_
  rw [nL_dig hs hp]
  exact ⟨_, rfl, hq⟩
/-- the reference's people -/
def zg_I (I : Nat → Nat → Int32) (P : Nat) (f : Nat → Nat) : Prop := P ≤ 10 ∧ I 132 3 = nI P ∧ ∀ p, p < P → I 134 p = nI (f p) ∧ f p < 5764801
theorem zy_220 (hY : zx_lay Y) (hI : zg_I I P f) (hs : s < 2 ^ 63) (hp : p < P) (hq : Q (nI (zg_n f s p)) (I, L, Y)) : zx_Ci l E (d + 2) 220 [.ref 132, .long (nL s), .int (nI p)] (I, L, Y) Q := by
  obtain ⟨hP, -, h3⟩ := hI
  obtain ⟨e, hf⟩ := h3 p hp
  refine sg_220_0 hY _ _ ⟨vp_in_nI (by omega) (by omega), zy_219 hY hs (by omega) ⟨hY, ?_⟩⟩
  have := zg_d_lt (s := s) (p := p)
  rw [nI_clamp (by omega)]
  dsimp only
  rw [e]
  exact zy_173 hY (by omega) (by omega) ⟨hY, _, rfl, hq⟩
theorem zy_222 (hY : zx_lay Y) (hI : zg_I I P f) (hs : s < 2 ^ 63) (hp : p < P) (hq : Q (nI (zy_orN (zg_m f P s p) P)) (I, L, Y)) : zx_Ci l E (d + 3) 222 [.ref 132, .long (nL s), .int (nI p)] (I, L, Y) Q := by
  obtain ⟨hP, h3, h4⟩ := id hI
  have nlt : ∀ q, q < P → zg_n f s q < 2 ^ 31 := fun q hq => Nat.lt_of_le_of_lt (zy_pf_le _ _) (Nat.lt_of_lt_of_le (h4 q hq).2 (by decide))
  refine sg_222_0 hY _ _ (zy_220 hY hI hs hp ⟨hY, ?_⟩)
  rw [← zy_or_nI _ _ (by omega)] at hq
  refine zy_down (n := P) (P := fun i => zx_To l E (d + 3) 222 14 [some (.ref 132), some (.long (nL s)), none, none, some (.int (nI (zg_n f s p))), some (.int (zy_or (zg_m f P s p) i)), some (.int (nI i))] [] (I, L, Y) _) ?_ (fun i hi ih => ?_)
  · exact sg_222_14 hY _ _ _ _ ⟨fun _ => ⟨_, rfl, hq⟩, fun h1 => absurd (by rw [h3]; exact (nI_leI (by omega) (by omega)).mpr (Nat.le_refl _)) h1⟩
  · refine sg_222_14 hY _ _ _ _ ⟨fun h1 => ?_, fun _ => zy_220 hY hI hs hi ⟨hY, fun h2 => ?_, fun h2 => ?_⟩⟩
    · rw [h3, nI_leI (by omega) (by omega)] at h1; omega
    · rw [nI_eq (nlt i hi) (nlt p hp)] at h2
      have e : zy_or (zg_m f P s p) (i + 1) = zy_or (zg_m f P s p) i := by simp [zy_or, zg_m, h2]
      rw [nI_1, zy_or0, ← e]
      exact ih
    · rw [nI_eq (nlt i hi) (nlt p hp)] at h2
      have e : zy_or (zg_m f P s p) (i + 1) = zy_or (zg_m f P s p) i ||| ((1 : Int32) <<< (nI i &&& 31)) := by simp [zy_or, zg_m, h2, hi]
      rw [nI_1, ← e]
      exact ih
/-- the mask m's places, one less -/
theorem zy_223 (hY : zx_lay Y) (hP : P ≤ 10) (h3 : I 132 3 = nI P) {m : Nat → Bool} (hs : s < 16 ^ P) (hm : ∀ q, q < P → m q = true → 1 ≤ zg_d s q) (hq : Ql (nL (zg_mv P s m)) (I, L, Y)) : zx_Cl l E (d + 1) 223 [.ref 132, .long (nL s), .int (nI (zy_orN m P))] (I, L, Y) Ql := by
  have h40 := zg_40 hP hs
  have tot := zg_mv_sub hs hm
  have c10 := zy_orN10 m hP
  have part : ∀ i, i ≤ P → zg_c i (zg_bt m) ≤ zg_c P (zg_bt m) := fun i hi => by
    have : ∀ j, zg_c i (zg_bt m) ≤ zg_c (i + j) (zg_bt m) := by
      intro j
      induction j with
      | zero => exact Nat.le_refl _
      | succ j ih => rw [← Nat.add_assoc, zg_c]; omega
    have := this (P - i)
    rw [show i + (P - i) = P by omega] at this
    exact this
  refine sg_223_0 hY _ _ ?_
  refine zy_down (n := P) (P := fun i => zx_To l E (d + 1) 223 6 [some (.ref 132), none, none, some (.int (nI (zy_orN m P))), some (.long (nL (s - zg_c i (zg_bt m)))), none, some (.int (nI i))] [] (I, L, Y) _) ?_ (fun i hi ih => ?_)
  · rw [show s - zg_c P (zg_bt m) = zg_mv P s m by omega]
    exact sg_223_6 hY _ _ _ ⟨fun _ => ⟨_, rfl, hq⟩, fun h1 => absurd (by rw [h3]; exact (nI_leI (by omega) (by omega)).mpr (Nat.le_refl _)) h1⟩
  · refine sg_223_6 hY _ _ _ ⟨fun h1 => ?_, fun _ => zy_168 hY ⟨hY, ?_⟩⟩
    · rw [h3, nI_leI (by omega) (by omega)] at h1; omega
    · have e1 := zy_test1 (c := zy_orN m P) (i := i) (by omega) (by omega)
      rw [zy_orN_bit, decide_eq_true hi, Bool.true_and] at e1
      have hp1 := part (i + 1) (by omega)
      rw [zg_c] at ih hp1
      cases hmi : m i with
      | false =>
        rw [hmi] at e1
        rw [decide_eq_false (fun q => absurd (e1.mp q) (by decide))]
        refine ⟨fun _ => ?_, fun h => absurd rfl h⟩
        have : zg_bt m i = 0 := by unfold zg_bt; rw [hmi]; rfl
        rw [this, Nat.zero_mul, Nat.add_zero] at ih
        rw [show (0 : Int64) = nL 0 from rfl, nL_sub (by omega) (by omega), Nat.sub_zero, nI_1]
        exact ih
      | true =>
        rw [hmi] at e1
        rw [decide_eq_true (e1.mpr rfl)]
        refine ⟨fun h => absurd h (by decide), fun _ => ?_⟩
        have : zg_bt m i = 1 := by unfold zg_bt; rw [hmi]; rfl
        rw [this, Nat.one_mul] at ih hp1
        rw [nL_pow (by omega), nL_sub (by omega) (by omega), nI_1, Nat.sub_sub]
        exact ih
end YRa
