/-! ===== search: wanted states of the class ===== -/
/-- a row as it lies -/
theorem zs_GT_row {f π fr : Nat → Nat} {P N G b : Nat} {J : Nat → Nat → Int32} {K : Nat → Nat → Int64} {Y : zx_Y} {q : Nat → Nat} {R Z sb mk : Nat} {at_ ns : Nat → Nat} {ss pps cs : Nat → Nat → Nat} (h : zs_GT f π fr P N G b G J K Y q R Z sb mk at_ ns ss pps cs) {g j : Nat} (hg : g < G) (hj : j < ns g) :
    (at_ g + j < at_ G ∧ at_ G ≤ R ∧ R ≤ 20006) ∧ K (q 5) (at_ g + j) = nL (zs_r (g + 1) (zs_dl π fr g (ss g j))) ∧ J (q 6) (at_ g + j) = (if j = 0 then -1 else nI (at_ g + pps g j)) ∧ J (q 7) (at_ g + j) = nI (cs g j) ∧ J (q 8) (at_ g + j) = nI (zg_ls f P (ss g j)) ∧ cs g j ≤ 80 ∧ zg_ls f P (ss g j) ≤ 80 := by
  obtain ⟨⟨rw, pa, ca, lo, hD, h1⟩, ⟨h2, h3, h4⟩, h5⟩ := h
  obtain ⟨r1, r2, r3, r4⟩ := h1 g hg j hj
  have lt : at_ g + j < at_ G := by
    have := h3 g hg
    have := zs_at_mono h3 (show g + 1 ≤ G by omega)
    omega
  obtain ⟨d1, d2, d3, d4, d5, d6, d7⟩ := hD.2.2.2.1 _ lt
  rw [r1] at d1
  rw [r2] at d3
  rw [r3] at d4 d6
  rw [r4] at d5 d7
  exact ⟨⟨lt, hD.2.2.1, hD.1.2.2.2.2.1⟩, d1, d3, d4, d5, d6, d7⟩
theorem zs_GT_Q {f π fr : Nat → Nat} {P N G b : Nat} {J : Nat → Nat → Int32} {K : Nat → Nat → Int64} {Y : zx_Y} {q : Nat → Nat} {R Z sb mk : Nat} {at_ ns : Nat → Nat} {ss pps cs : Nat → Nat → Nat} (h : zs_GT f π fr P N G b G J K Y q R Z sb mk at_ ns ss pps cs) : zs_Q Y q R Z := by
  obtain ⟨⟨rw, pa, ca, lo, hD, -⟩, -⟩ := h
  exact hD.1
def zs_wb (α ο : Nat → Nat) (md : Bool) (M : Nat → Bool) (δ : Nat → Nat) : Bool := (List.range 10).all (fun i => decide (δ i ≤ α i) && (!md || (!M i || decide (δ i % 2 = ο i))))
theorem zs_wb_iff {α ο : Nat → Nat} {md : Bool} {M : Nat → Bool} {δ : Nat → Nat} : zs_wb α ο md M δ = true ↔ (∀ i, i < 10 → δ i ≤ α i) ∧ (md = true → ∀ i, i < 10 → M i = true → δ i % 2 = ο i) := by
  unfold zs_wb
  rw [List.all_eq_true]
  constructor
  · intro h
    refine ⟨fun i hi => ?_, fun hm i hi hM => ?_⟩
    · have := h i (List.mem_range.mpr hi)
      rw [Bool.and_eq_true, decide_eq_true_eq] at this
      exact this.1
    · have := h i (List.mem_range.mpr hi)
      rw [Bool.and_eq_true, hm, hM] at this
      have := this.2
      rw [Bool.not_true, Bool.false_or, Bool.false_or, decide_eq_true_eq] at this
      exact this
  · rintro ⟨h1, h2⟩ i hi
    have hi := List.mem_range.mp hi
    rw [decide_eq_true (h1 i hi), Bool.true_and]
    cases hm : md with
    | false => rfl
    | true =>
      cases hM : M i with
      | false => rfl
      | true => rw [decide_eq_true (h2 hm i hi hM)]; rfl
/-- what is wanted, as it lies -/
def zs_Wm (L : Nat → Nat → Int64) (α ο : Nat → Nat) (md : Bool) : Prop :=
  (∀ i, i < 10 → α i ≤ 8) ∧ L 22 17 = nL (zs_c 10 α) ∧ ((md = false ∧ L 22 19 = 0) ∨ (md = true ∧ L 22 19 = 36319351833633 ∧ L 22 18 = nL (zs_c 10 ο) ∧ ∀ i, i < 10 → ο i ≤ 1))
theorem zs_r0 {δ : Nat → Nat} : zs_r 0 δ = zs_c 10 δ := by rw [zs_r_eq]; omega
def zs_ob (o : Nat) : Option Nat → Int32
  | none => -1
  | some B => nI (o + B)
theorem zg_fb_stay {W : Nat → Bool} {κ : Nat → Nat} {B i : Nat} (h : zg_fb W κ i = some B) : ∀ n, i ≤ n → (∀ k, i ≤ k → k < n → W k = true → κ B ≤ κ k) → zg_fb W κ n = some B := by
  intro n
  induction n with
  | zero => intro hn _; rw [show i = 0 by omega] at h; exact h
  | succ n ih =>
    intro hn hk
    by_cases z : i = n + 1
    · rw [← z]; exact h
    · have e := ih (by omega) (fun k k1 k2 => hk k k1 (by omega))
      rw [zg_fb, e]
      cases hw : W n with
      | false => rfl
      | true =>
        rw [if_pos rfl]
        show (if κ n < κ B then some n else some B) = some B
        rw [if_neg (by have := hk n (by omega) (by omega) hw; omega)]
section YC
variable {l : Launch} {E : zx_E} {d : Nat} {I : Nat → Nat → Int32} {L : Nat → Nat → Int64} {Y : zx_Y} {Qo : Option Value → zx_M → Prop} {Q : Int32 → zx_M → Prop} {Ql : Int64 → zx_M → Prop} {Qv : zx_M → Prop} {f π fr q : Nat → Nat} {P N G g b R Z sb mk lg k : Nat} {at_ ns : Nat → Nat} {ss pps cs : Nat → Nat → Nat} {α ο δ : Nat → Nat} {md : Bool} {M : Nat → Bool}
theorem zy_157 (hY : zx_lay Y) {s p : Nat} (hs : s < 2 ^ 63) (hp : p < 10) (hq : Q (nI (zg_d s p)) (I, L, Y)) : zx_Ci l E d 157 [.long (nL s), .int (nI p)] (I, L, Y) Q := by
  refine sg_157_0 hY _ _ ?_
  rw [nL_digu hs hp]
  exact ⟨_, rfl, hq⟩
theorem zy_100 (hY : zx_lay Y) (hW : zs_Wm L α ο md) (hk : k < 8) (hδ : ∀ i, i < 10 → δ i ≤ 8) (hq : Q (if zs_wb α ο md M δ then 1 else 0) (I, L, Y)) : zx_Ci l E d 100 [.ref 22, .long (nL (zs_r k δ)), .long (nL (zs_c 10 (zg_bt M)))] (I, L, Y) Q := by
  obtain ⟨h1, h2, h3⟩ := hW
  refine sg_100_0 hY _ _ ?_
  rw [h2, zs_few hk hδ h1]
  have no : ¬ (∀ i, i < 10 → δ i ≤ α i) → zs_wb α ο md M δ = false := fun z => by
    cases e : zs_wb α ο md M δ with
    | false => rfl
    | true => exact absurd (zs_wb_iff.mp e).1 z
  refine ⟨fun z => ⟨fun _ => ⟨_, rfl, by rw [no z] at hq; exact hq⟩, fun y => absurd rfl y⟩, fun z => ⟨fun y => absurd y (by decide), fun _ => ?_⟩⟩
  rcases h3 with ⟨m1, m2⟩ | ⟨m1, m2, m3, m4⟩
  · have e : ((nL (zs_r k δ) &&& (1125899906842623 : Int64)) ^^^ L 22 18) &&& L 22 19 &&& nL (zs_c 10 (zg_bt M)) = 0 := by
      rw [m2, Int64.and_zero, Int64.zero_and]
    have w : zs_wb α ο md M δ = true := zs_wb_iff.mpr ⟨z, fun y => by rw [m1] at y; cases y⟩
    rw [w] at hq
    refine ⟨fun y => absurd ?_ y, fun _ => ⟨_, rfl, hq⟩⟩
    rw [e]; decide
  · rw [m2, m3, zs_odd hk hδ m4]
    refine ⟨fun y => ⟨_, rfl, ?_⟩, fun y => ⟨_, rfl, ?_⟩⟩
    · have w : zs_wb α ο md M δ = false := by
        cases e : zs_wb α ο md M δ with
        | false => rfl
        | true => exact absurd ((zs_wb_iff.mp e).2 m1) y
      rw [w] at hq; exact hq
    · rw [zs_wb_iff.mpr ⟨z, fun _ => y⟩] at hq; exact hq
/-- who is wanted to have lost so many -/
theorem zy_98 (hY : zx_lay Y) (hF : zs_F f 10) (hO : zs_Om f 10 N π) (hU : zs_U I L f N π G fr lg) (h9 : ∀ p, p < 10 → I 9 p = nI (f p)) (hP : P ≤ 10) (h7 : I 8 7 = nI P) (hfP : ∀ p, P ≤ p → p < 10 → f p = 0) {y : Nat} (hy : y < 2 ^ 63)
    (h1 : (∀ p, p < P → zg_d y p ≤ zy_len (f p)) → ∀ K, (∀ a x, a ≠ 22 → K a x = L a x) → zs_Wm K (fun i => if i < N then zy_len (f (π i)) - zg_d y (π i) else 0) (fun _ => 0) false → Q 1 (I, K, Y))
    (h0 : ∀ p, p < P → zy_len (f p) < zg_d y p → ∀ K, (∀ a x, a ≠ 22 → K a x = L a x) → Q 0 (I, K, Y)) : zx_Ci l E (d + 1) 98 [.ref 22, .ref 8, .long (nL y)] (I, L, Y) Q := by
  have hN := hO.1
  refine sg_98_0 hY _ ?_
  have key : ∀ r p, p + r = P → (∀ x, x < p → zg_d y x ≤ zy_len (f x)) → ∀ K, (∀ a x, a ≠ 22 → K a x = L a x) → K 22 19 = 0 → K 22 17 = nL (zs_r 0 (fun i => if i < N ∧ π i < p then zy_len (f (π i)) - zg_d y (π i) else 0)) →
      zx_To l E (d + 1) 98 13 [some (.ref 22), some (.ref 8), some (.long (nL y)), none, some (.int (nI p)), none, none] [] (I, K, Y) (fun r M' => ∃ v, r = some (.int v) ∧ Q v M') := by
    intro r
    induction r with
    | zero =>
      intro p hp hall K k1 k2 k3
      have ep : p = P := by omega
      subst ep
      refine sg_98_13 hY _ _ ⟨fun _ => ⟨_, rfl, h1 hall K k1 ⟨fun i hi => ?_, ?_, Or.inl ⟨rfl, k2⟩⟩⟩, fun h => absurd (by rw [h7]; exact (nI_leI (by omega) (by omega)).mpr (Nat.le_refl _)) h⟩
      · dsimp only
        by_cases z : i < N
        · rw [if_pos z]; have := zs_8 hF hO i z; omega
        · rw [if_neg z]; omega
      · rw [k3, zs_r0]
        congr 1
        refine zs_c_cong (fun i hi => ?_)
        by_cases z : i < N
        · obtain ⟨o1, o2⟩ := hO.2.1 i z
          rw [if_pos ⟨z, by
            by_cases w : π i < p
            · exact w
            · exact absurd (hfP _ (by omega) o1) o2⟩, if_pos z]
        · rw [if_neg (fun w => z w.1), if_neg z]
    | succ r ih =>
      intro p hp hall K k1 k2 k3
      have hp10 : p < 10 := by omega
      have fp := (hF.2.1 p hp10).1
      have l8 := zy_len8 fp
      have dl := zg_d_lt (s := y) (p := p)
      refine sg_98_13 hY _ _ ⟨fun h => ?_, fun _ => ⟨vp_in_nI hp10 (by omega), ?_⟩⟩
      · rw [h7, nI_leI (by omega) (by omega)] at h; omega
      rw [nI_clamp (by omega), h9 p hp10]
      refine zy_161 hY fp ⟨hY, zy_157 hY hy hp10 ⟨hY, ?_⟩⟩
      have hpos : 0 ≤ nI (zy_len (f p)) - nI (zg_d y p) ↔ zg_d y p ≤ zy_len (f p) := by
        have : ∀ a : Fin 9, ∀ b : Fin 16, (0 ≤ nI a.1 - nI b.1) ↔ b.1 ≤ a.1 := by decide
        exact this ⟨_, by omega⟩ ⟨_, dl⟩
      have next : zg_d y p ≤ zy_len (f p) → ∀ x, x < p + 1 → zg_d y x ≤ zy_len (f x) := fun z x hx => by
        by_cases e : x = p
        · rw [e]; exact z
        · exact hall x (by omega)
      refine zy_29 (I := I) (L := K) (N := N) (f := f) hY hN hU.1 (fun i hi => (hO.2.1 i hi).1) hp10 (fun i hi e => ⟨hY, fun z => ?_, fun z => ⟨_, rfl, ?_⟩⟩) (fun hno => ⟨hY, fun z => ?_, fun z => ⟨_, rfl, ?_⟩⟩)
      · rw [hpos] at z
        refine ⟨fun w => absurd w (nI_pos (by omega)), fun _ => ?_⟩
        rw [zy_sub_nI z (by omega), nI_1]
        dsimp only
        rw [k3, zs_put (k := 0) (p := i) (v := zy_len (f p) - zg_d y p) (by omega) (fun j hj => by
          by_cases w : j < N ∧ π j < p
          · rw [if_pos w]; have := zs_8 hF hO j w.1; omega
          · rw [if_neg w]; omega) (by omega) (by omega) (by rw [if_neg (by omega)])]
        refine ih (p + 1) (by omega) (next z) _ (fun a x ha => by rw [zy_u2_na ha]; exact k1 a x ha) (by rw [zy_u2_nk (by omega)]; exact k2) ?_
        rw [zy_u2_self]
        refine congrArg nL (zs_r_cong (fun j hj => ?_))
        by_cases w : j = i
        · rw [if_pos w, w, if_pos ⟨hi, by omega⟩, e]
        · rw [if_neg w]
          by_cases w2 : j < N ∧ π j < p
          · rw [if_pos w2, if_pos ⟨w2.1, by omega⟩]
          · rw [if_neg w2, if_neg (fun w3 => ?_)]
            have : π j ≠ p := fun w4 => w (hO.2.2.1 j i w3.1 hi (w4.trans e.symm))
            exact w2 ⟨w3.1, by omega⟩
      · rw [hpos] at z
        exact h0 p (by omega) (by omega) K k1
      · rw [hpos] at z
        refine ⟨fun _ => ?_, fun w => absurd (by decide) w⟩
        rw [nI_1]
        refine ih (p + 1) (by omega) (next z) K k1 k2 ?_
        rw [k3]
        refine congrArg nL (zs_r_cong (fun j hj => ?_))
        by_cases w2 : j < N ∧ π j < p
        · rw [if_pos w2, if_pos ⟨w2.1, by omega⟩]
        · rw [if_neg w2, if_neg (fun w3 => ?_)]
          have : π j ≠ p := hno j w3.1
          exact w2 ⟨w3.1, by omega⟩
      · rw [hpos] at z
        exact h0 p (by omega) (by omega) K k1
  refine key P 0 (by omega) (fun x hx => by omega) _ (fun a x ha => by rw [zy_u2_na ha, zy_u2_na ha]) (by rw [zy_u2_nk (by omega), zy_u2_self]) ?_
  rw [zy_u2_self]
  rw [zs_r_cong (δ' := fun _ => 0) (fun i _ => if_neg (by omega))]
  exact zs_r_0.symm
/-- who is wanted on the other side -/
theorem zy_99 (hY : zx_lay Y) (hF : zs_F f 10) (hO : zs_Om f 10 N π) (hU : zs_U I L f N π G fr lg) (h9 : ∀ p, p < 10 → I 9 p = nI (f p)) (hP : P ≤ 10) (h7 : I 8 7 = nI P) (hfP : ∀ p, P ≤ p → p < 10 → f p = 0) {S : Nat} (hS : S < 2 ^ P) (h8 : I 8 8 = nI S)
    (h1 : (∀ p, p < P → f p = 0 → S.testBit p = true) → ∀ K, (∀ a x, a ≠ 22 → K a x = L a x) → zs_Wm K (fun i => if i < N then zy_len (f (π i)) else 0) (fun i => if i < N then (zy_len (f (π i)) + (S.testBit (π i)).toNat + 1) % 2 else 0) true → Q 1 (I, K, Y))
    (h0 : ∀ p, p < P → f p = 0 → S.testBit p = false → ∀ K, (∀ a x, a ≠ 22 → K a x = L a x) → Q 0 (I, K, Y)) : zx_Ci l E (d + 1) 99 [.ref 22, .ref 8] (I, L, Y) Q := by
  have hN := hO.1
  have S10 : S < 2 ^ 10 := Nat.lt_of_lt_of_le hS (Nat.pow_le_pow_right (by omega) hP)
  refine sg_99_0 hY ?_
  have key : ∀ r p, p + r = P → (∀ x, x < p → f x = 0 → S.testBit x = true) → ∀ K, (∀ a x, a ≠ 22 → K a x = L a x) → K 22 19 = 36319351833633 → K 22 17 = nL (zs_r 0 (fun i => if i < N ∧ π i < p then zy_len (f (π i)) else 0)) → K 22 18 = nL (zs_r 0 (fun i => if i < N ∧ π i < p then (zy_len (f (π i)) + (S.testBit (π i)).toNat + 1) % 2 else 0)) →
      zx_To l E (d + 1) 99 19 [some (.ref 22), some (.ref 8), some (.int (nI p)), none, none, none] [] (I, K, Y) (fun r M' => ∃ v, r = some (.int v) ∧ Q v M') := by
    intro r
    induction r with
    | zero =>
      intro p hp hall K k1 k2 k3 k4
      have ep : p = P := by omega
      subst ep
      have inP : ∀ i, i < N → π i < p := fun i z => by
        obtain ⟨o1, o2⟩ := hO.2.1 i z
        by_cases w : π i < p
        · exact w
        · exact absurd (hfP _ (by omega) o1) o2
      refine sg_99_19 hY _ ⟨fun _ => ⟨_, rfl, h1 hall K k1 ⟨fun i hi => ?_, ?_, Or.inr ⟨rfl, k2, ?_, fun i hi => ?_⟩⟩⟩, fun h => absurd (by rw [h7]; exact (nI_leI (by omega) (by omega)).mpr (Nat.le_refl _)) h⟩
      · dsimp only
        by_cases z : i < N
        · rw [if_pos z]; exact zs_8 hF hO i z
        · rw [if_neg z]; omega
      · rw [k3, zs_r0]
        congr 1
        refine zs_c_cong (fun i hi => ?_)
        by_cases z : i < N
        · rw [if_pos ⟨z, inP i z⟩, if_pos z]
        · rw [if_neg (fun w => z w.1), if_neg z]
      · rw [k4, zs_r0]
        congr 1
        refine zs_c_cong (fun i hi => ?_)
        by_cases z : i < N
        · rw [if_pos ⟨z, inP i z⟩, if_pos z]
        · rw [if_neg (fun w => z w.1), if_neg z]
      · dsimp only
        by_cases z : i < N
        · rw [if_pos z]; omega
        · rw [if_neg z]; omega
    | succ r ih =>
      intro p hp hall K k1 k2 k3 k4
      have hp10 : p < 10 := by omega
      have fp := (hF.2.1 p hp10).1
      have l8 := zy_len8 fp
      refine sg_99_19 hY _ ⟨fun h => ?_, fun _ => ⟨vp_in_nI hp10 (by omega), ?_⟩⟩
      · rw [h7, nI_leI (by omega) (by omega)] at h; omega
      rw [nI_clamp (by omega), h9 p hp10]
      refine zy_161 hY fp ⟨hY, ?_⟩
      dsimp only
      rw [h8, zy_test (by omega) (by omega)]
      have eb : ∀ t : Bool, (if t then 1 else 0) = t.toNat := fun t => by cases t <;> rfl
      rw [eb]
      have par : (nI (zy_len (f p)) + nI (S.testBit p).toNat + 1) &&& 1 = nI ((zy_len (f p) + (S.testBit p).toNat + 1) % 2) := by
        have : ∀ a : Fin 9, ∀ b : Bool, (nI a.1 + nI b.toNat + 1) &&& 1 = nI ((a.1 + b.toNat + 1) % 2) := by decide
        exact this ⟨_, by omega⟩ _
      refine zy_29 (I := I) (L := K) (N := N) (f := f) hY hN hU.1 (fun i hi => (hO.2.1 i hi).1) hp10 (fun i hi e => ⟨hY, fun _ => ⟨fun w => absurd w (nI_pos (by omega)), fun _ => ?_⟩, fun z => absurd (nI_pos' (by omega)) z⟩) (fun hno => ⟨hY, fun z => absurd z (by decide), fun _ => ⟨fun z => ⟨fun _ => ?_, fun w => absurd (by decide) w⟩, fun z => ⟨_, rfl, ?_⟩⟩⟩)
      · dsimp only
        rw [par, nI_1, k3, k4]
        have lt16 : ∀ j, j < 10 → (if j < N ∧ π j < p then zy_len (f (π j)) else 0) < 16 := fun j _ => by
          by_cases w : j < N ∧ π j < p
          · rw [if_pos w]; have := zs_8 hF hO j w.1; omega
          · rw [if_neg w]; omega
        have lt2 : ∀ j, j < 10 → (if j < N ∧ π j < p then (zy_len (f (π j)) + (S.testBit (π j)).toNat + 1) % 2 else 0) < 16 := fun j _ => by
          by_cases w : j < N ∧ π j < p
          · rw [if_pos w]; omega
          · rw [if_neg w]; omega
        rw [zs_put (k := 0) (p := i) (v := zy_len (f p)) (by omega) lt16 (by omega) (by omega) (by rw [if_neg (by omega)]), zs_put (k := 0) (p := i) (v := (zy_len (f p) + (S.testBit p).toNat + 1) % 2) (by omega) lt2 (by omega) (by omega) (by rw [if_neg (by omega)])]
        refine ih (p + 1) (by omega) (fun x hx h0 => ?_) _ (fun a x ha => by rw [zy_u2_na ha, zy_u2_na ha]; exact k1 a x ha) (by rw [zy_u2_nk (by omega), zy_u2_nk (by omega)]; exact k2) ?_ ?_
        · by_cases w : x = p
          · rw [w, ← e] at h0; exact absurd h0 (hO.2.1 i hi).2
          · exact hall x (by omega) h0
        · rw [zy_u2_nk (by omega), zy_u2_self]
          refine congrArg nL (zs_r_cong (fun j hj => ?_))
          by_cases w : j = i
          · rw [if_pos w, w, if_pos ⟨hi, by omega⟩, e]
          · rw [if_neg w]
            by_cases w2 : j < N ∧ π j < p
            · rw [if_pos w2, if_pos ⟨w2.1, by omega⟩]
            · rw [if_neg w2, if_neg (fun w3 => ?_)]
              have : π j ≠ p := fun w4 => w (hO.2.2.1 j i w3.1 hi (w4.trans e.symm))
              exact w2 ⟨w3.1, by omega⟩
        · rw [zy_u2_self]
          refine congrArg nL (zs_r_cong (fun j hj => ?_))
          by_cases w : j = i
          · rw [if_pos w, w, if_pos ⟨hi, by omega⟩, e]
          · rw [if_neg w]
            by_cases w2 : j < N ∧ π j < p
            · rw [if_pos w2, if_pos ⟨w2.1, by omega⟩]
            · rw [if_neg w2, if_neg (fun w3 => ?_)]
              have : π j ≠ p := fun w4 => w (hO.2.2.1 j i w3.1 hi (w4.trans e.symm))
              exact w2 ⟨w3.1, by omega⟩
      · rw [nI_1]
        have sb : S.testBit p = true := by
          cases e : S.testBit p with
          | true => rfl
          | false => rw [e] at z; exact absurd (by decide : nI (false).toNat = 0) z
        refine ih (p + 1) (by omega) (fun x hx h0 => ?_) K k1 k2 ?_ ?_
        · by_cases w : x = p
          · rw [w]; exact sb
          · exact hall x (by omega) h0
        · rw [k3]
          refine congrArg nL (zs_r_cong (fun j hj => ?_))
          by_cases w2 : j < N ∧ π j < p
          · rw [if_pos w2, if_pos ⟨w2.1, by omega⟩]
          · rw [if_neg w2, if_neg (fun w3 => ?_)]
            have : π j ≠ p := hno j w3.1
            exact w2 ⟨w3.1, by omega⟩
        · rw [k4]
          refine congrArg nL (zs_r_cong (fun j hj => ?_))
          by_cases w2 : j < N ∧ π j < p
          · rw [if_pos w2, if_pos ⟨w2.1, by omega⟩]
          · rw [if_neg w2, if_neg (fun w3 => ?_)]
            have : π j ≠ p := hno j w3.1
            exact w2 ⟨w3.1, by omega⟩
      · have f0 : f p = 0 := by
          by_cases w : f p = 0
          · exact w
          · obtain ⟨i, i1, i2⟩ := hO.2.2.2.1 p hp10 w
            exact absurd i2 (hno i i1)
        have sb : S.testBit p = false := by
          cases e : S.testBit p with
          | false => rfl
          | true => rw [e] at z; exact absurd z (by decide)
        exact h0 p (by omega) f0 sb K k1
  refine key P 0 (by omega) (fun x hx => by omega) _ (fun a x ha => by rw [zy_u2_na ha, zy_u2_na ha, zy_u2_na ha]) (by rw [zy_u2_nk (by omega), zy_u2_nk (by omega), zy_u2_self]) ?_ ?_
  · rw [zy_u2_nk (by omega), zy_u2_self, zs_r_cong (δ' := fun _ => 0) (fun i _ => if_neg (by omega))]
    exact zs_r_0.symm
  · rw [zy_u2_self, zs_r_cong (δ' := fun _ => 0) (fun i _ => if_neg (by omega))]
    exact zs_r_0.symm
end YC
