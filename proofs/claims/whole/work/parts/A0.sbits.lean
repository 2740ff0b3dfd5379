/-! ===== search: five bits a place ===== -/
def zs_c : Nat → (Nat → Nat) → Nat
  | 0, _ => 0
  | N + 1, g => zs_c N g + g N * 32 ^ N
theorem zs_c_lt {g : Nat → Nat} : ∀ {N : Nat}, (∀ p, p < N → g p < 32) → zs_c N g < 32 ^ N
  | 0, _ => Nat.lt_succ_self 0
  | N + 1, h => by
    have h1 := zs_c_lt (g := g) (N := N) (fun p hp => h p (by omega))
    have h2 := h N (by omega)
    have h3 : g N * 32 ^ N ≤ 31 * 32 ^ N := Nat.mul_le_mul_right _ (by omega)
    rw [zs_c, Nat.pow_succ]; omega
theorem zs_c_cong {g g' : Nat → Nat} : ∀ {N : Nat}, (∀ p, p < N → g p = g' p) → zs_c N g = zs_c N g'
  | 0, _ => rfl
  | N + 1, h => by rw [zs_c, zs_c, zs_c_cong (N := N) (fun p hp => h p (by omega)), h N (by omega)]
def zs_d (s p : Nat) : Nat := s / 32 ^ p % 32
theorem zs_d_c {g : Nat → Nat} : ∀ {N : Nat}, (∀ p, p < N → g p < 32) → ∀ p, p < N → zs_d (zs_c N g) p = g p
  | 0, _, p, hp => by omega
  | N + 1, h, p, hp => by
    have h1 := zs_c_lt (g := g) (N := N) (fun p hp => h p (by omega))
    rw [zs_c]
    by_cases e : p = N
    · subst e
      unfold zs_d
      rw [Nat.add_mul_div_right _ _ (Nat.pow_pos (by omega)), Nat.div_eq_of_lt h1, Nat.zero_add, Nat.mod_eq_of_lt (h p (by omega))]
    · have ih := zs_d_c (g := g) (N := N) (fun p hp => h p (by omega)) p (by omega)
      unfold zs_d at *
      rw [show 32 ^ N = 32 ^ p * (32 ^ (N - p - 1) * 32) by rw [← Nat.pow_succ, ← Nat.pow_add]; congr 1; omega]
      rw [show g N * (32 ^ p * (32 ^ (N - p - 1) * 32)) = 32 ^ p * (g N * 32 ^ (N - p - 1) * 32) by rw [Nat.mul_left_comm, Nat.mul_assoc]]
      rw [Nat.add_mul_div_left _ _ (Nat.pow_pos (by omega)), Nat.add_mul_mod_self_right]
      exact ih
theorem zs_inj {g h : Nat → Nat} {N : Nat} (hg : ∀ p, p < N → g p < 32) (hh : ∀ p, p < N → h p < 32) (e : zs_c N g = zs_c N h) : ∀ p, p < N → g p = h p := fun p hp => by
  rw [← zs_d_c hg p hp, e, zs_d_c hh p hp]
theorem zs_c_sub {g e : Nat → Nat} : ∀ {N : Nat}, (∀ p, p < N → e p ≤ g p) → zs_c N (fun p => g p - e p) + zs_c N e = zs_c N g
  | 0, _ => rfl
  | N + 1, h => by
    have ih := zs_c_sub (g := g) (e := e) (N := N) (fun p hp => h p (by omega))
    have h2 := h N (by omega)
    have h3 : (g N - e N) * 32 ^ N + e N * 32 ^ N = g N * 32 ^ N := by rw [← Nat.add_mul]; congr 1; omega
    rw [zs_c, zs_c, zs_c]; omega
theorem zs_tb {g : Nat → Nat} : ∀ {N : Nat}, (∀ i, i < N → g i < 32) → ∀ i r, r < 5 → (zs_c N g).testBit (5 * i + r) = (decide (i < N) && (g i).testBit r)
  | 0, _, i, r, hr => by rw [zs_c, Nat.zero_testBit, decide_eq_false (by omega)]; rfl
  | N + 1, h, i, r, hr => by
    have h1 := zs_c_lt (g := g) (N := N) (fun p hp => h p (by omega))
    have ih := zs_tb (g := g) (N := N) (fun p hp => h p (by omega)) i r hr
    have e : 32 ^ N = 2 ^ (5 * N) := by rw [Nat.pow_mul]
    rw [e] at h1
    rw [zs_c, e, Nat.add_comm, Nat.mul_comm, Nat.testBit_two_pow_mul_add _ h1]
    by_cases lt : i < N
    · rw [if_pos (by omega), ih, decide_eq_true lt, decide_eq_true (by omega)]
    · rw [if_neg (by omega)]
      by_cases eq : i = N
      · subst eq
        rw [decide_eq_true (by omega), Bool.true_and]
        congr 1; omega
      · rw [decide_eq_false (by omega), Bool.false_and]
        refine Nat.testBit_lt_two_pow (Nat.lt_of_lt_of_le (h N (by omega)) ?_)
        exact Nat.le_trans (by decide : 32 ≤ 2 ^ 5) (Nat.pow_le_pow_right (by omega) (by omega))
theorem zs_ext {a b : Nat} (h : ∀ i r, r < 5 → a.testBit (5 * i + r) = b.testBit (5 * i + r)) : a = b :=
  Nat.eq_of_testBit_eq (fun j => by
    have := h (j / 5) (j % 5) (Nat.mod_lt _ (by omega))
    rw [Nat.div_add_mod] at this
    exact this)
section SB
variable {N : Nat} {g h : Nat → Nat}
theorem zs_and (hg : ∀ i, i < N → g i < 32) (hh : ∀ i, i < N → h i < 32) : zs_c N g &&& zs_c N h = zs_c N (fun i => g i &&& h i) := by
  refine zs_ext (fun i r hr => ?_)
  rw [Nat.testBit_and, zs_tb hg i r hr, zs_tb hh i r hr, zs_tb (fun i hi => Nat.lt_of_le_of_lt Nat.and_le_left (hg i hi)) i r hr, Nat.testBit_and]
  cases decide (i < N) <;> simp
theorem zs_or (hg : ∀ i, i < N → g i < 32) (hh : ∀ i, i < N → h i < 32) : zs_c N g ||| zs_c N h = zs_c N (fun i => g i ||| h i) := by
  refine zs_ext (fun i r hr => ?_)
  rw [Nat.testBit_or, zs_tb hg i r hr, zs_tb hh i r hr, zs_tb (fun i hi => Nat.or_lt_two_pow (n := 5) (hg i hi) (hh i hi)) i r hr, Nat.testBit_or]
  cases decide (i < N) <;> simp
theorem zs_xor (hg : ∀ i, i < N → g i < 32) (hh : ∀ i, i < N → h i < 32) : zs_c N g ^^^ zs_c N h = zs_c N (fun i => g i ^^^ h i) := by
  refine zs_ext (fun i r hr => ?_)
  rw [Nat.testBit_xor, zs_tb hg i r hr, zs_tb hh i r hr, zs_tb (fun i hi => Nat.xor_lt_two_pow (n := 5) (hg i hi) (hh i hi)) i r hr, Nat.testBit_xor]
  cases decide (i < N) <;> simp
end SB
theorem zg_bt_b {m : Nat → Bool} {q : Nat} : zg_bt m q = (m q).toNat := by unfold zg_bt; cases m q <;> rfl
theorem nL_and {a b : Nat} (ha : a < 2 ^ 63) (hb : b < 2 ^ 63) : nL a &&& nL b = nL (a &&& b) := by
  refine nL_eq (Nat.and_lt_two_pow _ hb) ?_
  rw [Int64.toBitVec_and, BitVec.toNat_and, nL_tn ha, nL_tn hb]
theorem nL_orr {a b : Nat} (ha : a < 2 ^ 63) (hb : b < 2 ^ 63) : nL a ||| nL b = nL (a ||| b) := by
  refine nL_eq (Nat.or_lt_two_pow ha hb) ?_
  rw [Int64.toBitVec_or, BitVec.toNat_or, nL_tn ha, nL_tn hb]
theorem nL_not {Z : Nat} (hZ : Z < 2 ^ 63) : (nL Z ^^^ (-1 : Int64)).toBitVec.toNat = 2 ^ 64 - (Z + 1) := by
  rw [Int64.toBitVec_xor, show (-1 : Int64).toBitVec = BitVec.allOnes 64 by decide, BitVec.xor_allOnes, BitVec.toNat_not, nL_tn hZ]
  omega
/-- a number less those of another's bits -/
theorem nL_andnot {a Z : Nat} (ha : a < 2 ^ 63) (hZ : Z < 2 ^ 63) : nL a &&& (nL Z ^^^ (-1 : Int64)) = nL (a &&& (2 ^ 64 - (Z + 1))) := by
  refine nL_eq (Nat.lt_of_le_of_lt Nat.and_le_left ha) ?_
  rw [Int64.toBitVec_and, BitVec.toNat_and, nL_tn ha, nL_not hZ]
theorem nL_not4 {Z m : Nat} (hZ : Z < 2 ^ 63) (hm : m < 2 ^ 63) : ((nL Z ^^^ (-1 : Int64)).toUInt64 >>> ((4 : Int32).toInt64.toUInt64 &&& Int64.toUInt64 63)).toInt64 &&& nL m = nL ((2 ^ 64 - (Z + 1)) / 2 ^ 4 &&& m) := by
  refine nL_eq (Nat.and_lt_two_pow _ hm) ?_
  rw [Int64.toBitVec_and, BitVec.toNat_and, nL_tn hm]
  congr 1
  show ((nL Z ^^^ (-1 : Int64)).toUInt64 >>> ((4 : Int32).toInt64.toUInt64 &&& Int64.toUInt64 63)).toNat = _
  rw [UInt64.toNat_shiftRight, show ((4 : Int32).toInt64.toUInt64 &&& Int64.toUInt64 63).toNat % 64 = 4 by decide, Nat.shiftRight_eq_div_pow]
  congr 1
  exact nL_not hZ
def zs_11 (k : Nat) (δ : Nat → Nat) : Nat → Nat := fun i => if i < 10 then δ i else k
/-- a state of a group: its mark, and letters by place -/
def zs_r (k : Nat) (δ : Nat → Nat) : Nat := zs_c 11 (zs_11 k δ)
section SC
variable {k l : Nat} {δ α ο : Nat → Nat} {M : Nat → Bool}
theorem zs_11_lt (hk : k < 8) (hδ : ∀ i, i < 10 → δ i < 16) : ∀ i, i < 11 → zs_11 k δ i < 32 := fun i hi => by
  unfold zs_11
  by_cases e : i < 10
  · rw [if_pos e]; have := hδ i e; omega
  · rw [if_neg e]; omega
theorem zs_r_eq : zs_r k δ = zs_c 10 δ + k * 2 ^ 50 := by
  unfold zs_r
  rw [zs_c, zs_c_cong (g' := δ) (fun i hi => by unfold zs_11; rw [if_pos hi])]
  rfl
theorem zs_c10 (hδ : ∀ i, i < 10 → δ i < 32) : zs_c 10 δ < 2 ^ 50 := zs_c_lt hδ
theorem zs_r_lt (hk : k < 8) (hδ : ∀ i, i < 10 → δ i < 16) : zs_r k δ < 2 ^ 63 := by
  have := zs_c10 (fun i hi => Nat.lt_of_lt_of_le (hδ i hi) (by decide : 16 ≤ 32))
  rw [zs_r_eq]; omega
theorem zs_r_cong {δ' : Nat → Nat} (h : ∀ i, i < 10 → δ i = δ' i) : zs_r k δ = zs_r k δ' := by rw [zs_r_eq, zs_r_eq, zs_c_cong h]
theorem zs_r_all (hk : k < 8) (hδ : ∀ i, i < 10 → δ i < 16) : nL (zs_r k δ) &&& (1125899906842623 : Int64) = nL (zs_c 10 δ) := by
  have h1 := zs_r_lt hk hδ
  rw [show (1125899906842623 : Int64) = nL (2 ^ 50 - 1) from rfl, nL_and h1 (by decide), Nat.and_two_pow_sub_one_eq_mod, zs_r_eq, Nat.add_mul_mod_self_right, Nat.mod_eq_of_lt (zs_c10 (fun i hi => Nat.lt_of_lt_of_le (hδ i hi) (by decide : 16 ≤ 32)))]
theorem zs_ones : (36319351833633 : Int64) = nL (zs_c 10 (fun _ => 1)) := by decide
theorem zs_tops : (581109629338128 : Int64) = nL (zs_c 10 (fun _ => 16)) := by decide
theorem zs_onesl (hl : l < 16) : (36319351833633 : Int64) * (nI l).toInt64 = nL (zs_c 10 (fun _ => l)) := by
  have : ∀ l : Fin 16, (36319351833633 : Int64) * (nI l.1).toInt64 = nL (zs_c 10 (fun _ => l.1)) := by decide
  exact this ⟨l, hl⟩
theorem zs_dig1 {x l : Nat} (hx : x < 16) (hl : l < 16) : (((x ^^^ l) ||| 16) - 1).testBit 4 = !decide (x = l) ∧ ((x ^^^ l) ||| 16) < 32 ∧ 1 ≤ ((x ^^^ l) ||| 16) := by
  have : ∀ x l : Fin 16, (((x.1 ^^^ l.1) ||| 16) - 1).testBit 4 = !decide (x.1 = l.1) ∧ ((x.1 ^^^ l.1) ||| 16) < 32 ∧ 1 ≤ ((x.1 ^^^ l.1) ||| 16) := by decide
  exact this ⟨x, hx⟩ ⟨l, hl⟩
/-- the places with l letters -/
theorem zs_pw (hk : k < 8) (hδ : ∀ i, i < 10 → δ i < 16) (hl : l < 16) :
    (((((((nL (zs_r k δ) &&& (1125899906842623 : Int64)) ^^^ ((36319351833633 : Int64) * (nI l).toInt64)) ||| (581109629338128 : Int64)) - (36319351833633 : Int64)) ^^^ (-1 : Int64))).toUInt64 >>> ((4 : Int32).toInt64.toUInt64 &&& Int64.toUInt64 63)).toInt64 &&& (36319351833633 : Int64) = nL (zs_c 10 (zg_bt (fun i => decide (δ i = l)))) := by
  have h32 : ∀ i, i < 10 → δ i < 32 := fun i hi => Nat.lt_of_lt_of_le (hδ i hi) (by decide : 16 ≤ 32)
  have hx : ∀ i, i < 10 → δ i ^^^ l < 32 := fun i hi => Nat.xor_lt_two_pow (n := 5) (h32 i hi) (by omega)
  have ho : ∀ i, i < 10 → (δ i ^^^ l) ||| 16 < 32 := fun i hi => (zs_dig1 (hδ i hi) hl).2.1
  have hs : ∀ i, i < 10 → ((δ i ^^^ l) ||| 16) - 1 < 32 := fun i hi => by have := ho i hi; omega
  have b : ∀ g : Nat → Nat, (∀ i, i < 10 → g i < 32) → zs_c 10 g < 2 ^ 50 := fun g h => zs_c10 h
  rw [zs_r_all hk hδ, zs_onesl hl, nL_xor (by have := b _ h32; omega) (by have := b (fun _ => l) (fun _ _ => by omega); omega), zs_xor h32 (fun _ _ => by omega), zs_tops,
    nL_orr (by have := b _ hx; omega) (by decide), zs_or hx (fun _ _ => by omega), zs_ones]
  have sub := zs_c_sub (N := 10) (g := fun i => (δ i ^^^ l) ||| 16) (e := fun _ => 1) (fun i hi => (zs_dig1 (hδ i hi) hl).2.2)
  have lo := b _ ho
  rw [nL_sub (by omega) (by omega), show zs_c 10 (fun i => (δ i ^^^ l) ||| 16) - zs_c 10 (fun _ => 1) = zs_c 10 (fun i => ((δ i ^^^ l) ||| 16) - 1) by omega]
  have ls := b _ hs
  rw [nL_not4 (by omega) (by decide)]
  congr 1
  refine zs_ext (fun i r hr => ?_)
  have hbt : ∀ i, i < 10 → zg_bt (fun i => decide (δ i = l)) i < 32 := fun i _ => Nat.lt_of_le_of_lt zg_bt_le (by decide)
  rw [Nat.testBit_and, Nat.testBit_div_two_pow, Nat.testBit_two_pow_sub_succ (by omega), zs_tb (fun _ _ => by decide) i r hr, zs_tb hbt i r hr]
  by_cases hi : i < 10
  · rw [decide_eq_true hi, Bool.true_and, Bool.true_and]
    by_cases h0 : r = 0
    · subst h0
      rw [Nat.add_zero, zs_tb hs i 4 (by omega), decide_eq_true hi, Bool.true_and, (zs_dig1 (hδ i hi) hl).1, decide_eq_true (by omega), Bool.true_and, Bool.not_not]
      rw [zg_bt_b]
      by_cases e : δ i = l
      · rw [decide_eq_true e]; decide
      · rw [decide_eq_false e]; decide
    · have e1 : Nat.testBit 1 r = false := Nat.testBit_lt_two_pow (Nat.one_lt_two_pow h0)
      rw [e1, Bool.and_false]
      exact (Nat.testBit_lt_two_pow (Nat.lt_of_le_of_lt zg_bt_le (Nat.one_lt_two_pow h0))).symm
  · rw [decide_eq_false hi, Bool.false_and, Bool.false_and, Bool.and_false]
/-- less a letter each -/
theorem zs_less (hk : k < 8) (hδ : ∀ i, i < 10 → δ i < 16) (hM : ∀ i, i < 10 → M i = true → 1 ≤ δ i) : nL (zs_r k δ) - nL (zs_c 10 (zg_bt M)) = nL (zs_r k (fun i => δ i - zg_bt M i)) := by
  have sub := zs_c_sub (N := 10) (g := δ) (e := zg_bt M) (fun i hi => by
    cases e : M i with
    | true => rw [zg_bt_1 e]; exact hM i hi e
    | false => rw [zg_bt_0 e]; omega)
  have lt := zs_r_lt hk hδ
  rw [nL_sub lt (by rw [zs_r_eq]; omega)]
  congr 1
  rw [zs_r_eq, zs_r_eq]; omega
theorem zs_bt32 : ∀ i, i < 10 → zg_bt M i < 32 := fun i _ => Nat.lt_of_le_of_lt zg_bt_le (by decide)
theorem zs_bt_lt : zs_c 10 (zg_bt M) < 2 ^ 63 := by have := zs_c10 (zs_bt32 (M := M)); omega
theorem zs_bt_and {M' : Nat → Bool} : nL (zs_c 10 (zg_bt M)) &&& nL (zs_c 10 (zg_bt M')) = nL (zs_c 10 (zg_bt (fun i => M i && M' i))) := by
  rw [nL_and zs_bt_lt zs_bt_lt, zs_and zs_bt32 zs_bt32]
  congr 1
  refine zs_c_cong (fun i _ => ?_)
  rw [zg_bt_b, zg_bt_b, zg_bt_b]
  cases M i <;> cases M' i <;> decide
theorem zs_bt_andnot {M' : Nat → Bool} : nL (zs_c 10 (zg_bt M)) &&& (nL (zs_c 10 (zg_bt M')) ^^^ (-1 : Int64)) = nL (zs_c 10 (zg_bt (fun i => M i && !M' i))) := by
  have l1 := zs_c10 (zs_bt32 (M := M'))
  rw [nL_andnot zs_bt_lt zs_bt_lt]
  congr 1
  refine zs_ext (fun i r hr => ?_)
  rw [Nat.testBit_and, Nat.testBit_two_pow_sub_succ (by omega), zs_tb zs_bt32 i r hr, zs_tb zs_bt32 i r hr, zs_tb zs_bt32 i r hr]
  by_cases hi : i < 10
  · rw [decide_eq_true hi, decide_eq_true (by omega), Bool.true_and, Bool.true_and, Bool.true_and, Bool.true_and]
    rw [zg_bt_b, zg_bt_b, zg_bt_b]
    by_cases h0 : r = 0
    · subst h0
      cases M i <;> cases M' i <;> decide
    · have e1 : Nat.testBit 1 r = false := Nat.testBit_lt_two_pow (Nat.one_lt_two_pow h0)
      cases M i <;> cases M' i <;> simp [e1]
  · rw [decide_eq_false hi, Bool.false_and, Bool.false_and, Bool.false_and]
theorem zs_bt_0 : nL (zs_c 10 (zg_bt M)) = 0 ↔ ∀ i, i < 10 → M i = false := by
  constructor
  · intro e i hi
    have e := nL_inj zs_bt_lt (by decide) (show nL (zs_c 10 (zg_bt M)) = nL (zs_c 10 (fun _ => 0)) from e)
    have := zs_inj zs_bt32 (fun _ _ => by decide) e i hi
    cases z : M i with
    | false => rfl
    | true => rw [zg_bt_1 z] at this; omega
  · intro h
    rw [zs_c_cong (g' := fun _ => 0) (fun i hi => zg_bt_0 (h i hi))]
    decide
/-- as spread bits -/
def zs_sp (c : Nat) : Nat := zs_c 10 (fun i => if c.testBit i then 1 else 0)
theorem zs_sp_of : zs_c 10 (zg_bt M) = zs_sp (zy_orN M 10) := by
  unfold zs_sp
  refine zs_c_cong (fun i hi => ?_)
  rw [zy_orN_bit, decide_eq_true hi, Bool.true_and]
  rfl
def zs_bcE (x : Int64) : Int32 :=
  let u := fun (x : Int64) (s : Int32) => (x.toUInt64 >>> (s.toInt64.toUInt64 &&& Int64.toUInt64 63)).toInt64
  let a := x - (u x 1 &&& 6148914691236517205)
  let b := (a &&& 3689348814741910323) + (u a 2 &&& 3689348814741910323)
  let c := (b + u b 4) &&& 1085102592571150095
  let e := c + u c 8
  let f := e + u e 16
  let g := f + u f 32
  g.toInt32 &&& 127
set_option maxRecDepth 100000 in
theorem zs_bc_all : ((List.range 1024).all fun c => decide (zs_bcE (nL (zs_sp c)) = nI (zy_pop c))) = true := by decide +kernel
def zs_ntE (x : Int64) : Int32 := if x.toInt32 = 0 then 32 + zy_ntE ((x.toUInt64 >>> ((32 : Int32).toInt64.toUInt64 &&& Int64.toUInt64 63)).toInt64).toInt32 else zy_ntE x.toInt32
set_option maxRecDepth 100000 in
theorem zs_nt_all : ((List.range 1024).all fun c => decide (c = 0) || decide (zs_ntE (nL (zs_sp c)) = nI (5 * zy_low c))) = true := by decide +kernel
end SC
section SD
variable {l : Launch} {E : zx_E} {d : Nat} {I : Nat → Nat → Int32} {L : Nat → Nat → Int64} {Y : zx_Y} {Qo : Option Value → zx_M → Prop} {Q : Int32 → zx_M → Prop} {Ql : Int64 → zx_M → Prop} {Qv : zx_M → Prop} {k m : Nat} {δ α ο : Nat → Nat} {M : Nat → Bool}
theorem zy_268 (hY : zx_lay Y) (hq : Q (nI (zy_cnt M 10)) (I, L, Y)) : zx_Ci l E d 268 [.long (nL (zs_c 10 (zg_bt M)))] (I, L, Y) Q := by
  refine sg_268_0 hY _ ⟨_, rfl, ?_⟩
  have hc := zy_orN10 M (Nat.le_refl 10)
  have e : zs_bcE (nL (zs_c 10 (zg_bt M))) = nI (zy_cnt M 10) := by
    rw [zs_sp_of, of_decide_eq_true (List.all_eq_true.mp zs_bc_all _ (List.mem_range.mpr hc)), zy_pop_orN]
  rw [← e] at hq
  exact hq
theorem zy_267 (hY : zx_lay Y) {i : Nat} (hi : i < 10) (hm : M i = true) (hl : ∀ j, j < i → M j = false) (hq : Q (nI (5 * i)) (I, L, Y)) : zx_Ci l E (d + 1) 267 [.long (nL (zs_c 10 (zg_bt M)))] (I, L, Y) Q := by
  have hc := zy_orN10 M (Nat.le_refl 10)
  have lo : zy_low (zy_orN M 10) = i := (zy_low_iff hc hi).mpr ⟨by rw [zy_orN_bit, decide_eq_true hi, hm]; rfl, fun j hj => by rw [zy_orN_bit, hl j hj, Bool.and_false]⟩
  have nz : zy_orN M 10 ≠ 0 := fun z => by
    have := zy_orN_bit M 10 i
    rw [z, Nat.zero_testBit, decide_eq_true hi, hm] at this
    cases this
  have e : zs_ntE (nL (zs_c 10 (zg_bt M))) = nI (5 * i) := by
    have := List.all_eq_true.mp zs_nt_all _ (List.mem_range.mpr hc)
    rw [decide_eq_false nz, Bool.false_or] at this
    rw [zs_sp_of, of_decide_eq_true this, lo]
  rw [← e] at hq
  unfold zs_ntE at hq
  refine sg_267_0 hY _ ⟨fun h => zy_265E hY ⟨hY, _, rfl, ?_⟩, fun h => zy_265E hY ⟨hY, _, rfl, ?_⟩⟩
  · rw [if_neg h] at hq; exact hq
  · rw [if_pos h] at hq; exact hq
theorem nI_div5 {i : Nat} (hi : i < 10) : nI (5 * i) / 5 = nI i := by
  have : ∀ i : Fin 10, nI (5 * i.1) / 5 = nI i.1 := by decide
  exact this ⟨i, hi⟩
theorem nL_sh5u {p : Nat} (hp : p < 10) : (((5 * nI p).toInt64.toUInt64) &&& (Int64.toUInt64 63)).toNat % 64 = 5 * p := by
  have : ∀ p : Fin 10, (((5 * nI p.1).toInt64.toUInt64) &&& (Int64.toUInt64 63)).toNat % 64 = 5 * p.1 := by decide
  exact this ⟨p, hp⟩
theorem nL_put5 {v p : Nat} (hv : v < 16) (hp : p < 10) : (nI v).toInt64 <<< ((5 * nI p).toInt64 &&& 63) = nL (v * 32 ^ p) := by
  have : ∀ v : Fin 16, ∀ p : Fin 10, (nI v.1).toInt64 <<< ((5 * nI p.1).toInt64 &&& 63) = nL (v.1 * 32 ^ p.1) := by decide
  exact this ⟨v, hv⟩ ⟨p, hp⟩
theorem nL_one5 {p : Nat} (hp : p < 10) : (1 : Int64) <<< ((5 * nI p).toInt64 &&& 63) = nL (32 ^ p) := by
  have : ∀ p : Fin 10, (1 : Int64) <<< ((5 * nI p.1).toInt64 &&& 63) = nL (32 ^ p.1) := by decide
  exact this ⟨p, hp⟩
theorem zs_r_d (hk : k < 8) (hδ : ∀ i, i < 10 → δ i < 16) {i : Nat} (hi : i < 10) : zs_r k δ / 2 ^ (5 * i) % 16 = δ i := by
  have h1 := zs_d_c (zs_11_lt hk hδ) i (by omega)
  unfold zs_d at h1
  have e : 32 ^ i = 2 ^ (5 * i) := by rw [Nat.pow_mul]
  rw [e] at h1
  have h2 : zs_11 k δ i = δ i := by unfold zs_11; rw [if_pos hi]
  rw [h2] at h1
  have := hδ i hi
  unfold zs_r
  omega
/-- the letters at a place -/
theorem zs_dig (hk : k < 8) (hδ : ∀ i, i < 10 → δ i < 16) {i : Nat} (hi : i < 10) : (((nL (zs_r k δ)).toUInt64 >>> ((5 * nI i).toInt64.toUInt64 &&& Int64.toUInt64 63)).toInt64).toInt32 &&& 15 = nI (δ i) := by
  have lt := zs_r_lt hk hδ
  have hd : zs_r k δ / 2 ^ (5 * i) ≤ zs_r k δ := Nat.div_le_self _ _
  rw [nL_ushift lt (nL_sh5u hi), nL_i32 (by omega), zs_r_d hk hδ hi]
theorem zs_digL (hk : k < 8) (hδ : ∀ i, i < 10 → δ i < 16) {i : Nat} (hi : i < 10) : ((nL (zs_r k δ)).toUInt64 >>> ((5 * nI i).toInt64.toUInt64 &&& Int64.toUInt64 63)).toInt64 &&& 15 = nL (δ i) := by
  have lt := zs_r_lt hk hδ
  have hd : zs_r k δ / 2 ^ (5 * i) ≤ zs_r k δ := Nat.div_le_self _ _
  rw [nL_ushift lt (nL_sh5u hi), show (15 : Int64) = nL (2 ^ 4 - 1) from rfl, nL_and (by omega) (by decide), Nat.and_two_pow_sub_one_eq_mod, ← zs_r_d hk hδ hi]
theorem zs_one_c {v p : Nat} : ∀ {N : Nat}, p < N → zs_c N (fun i => if i = p then v else 0) = v * 32 ^ p := by
  have z : ∀ N, N ≤ p → zs_c N (fun i => if i = p then v else 0) = 0 := by
    intro N
    induction N with
    | zero => exact fun _ => rfl
    | succ N ih => intro h; rw [zs_c, ih (by omega), if_neg (by omega), Nat.zero_mul]
  intro N
  induction N with
  | zero => intro h; omega
  | succ N ih =>
    intro h
    rw [zs_c]
    by_cases e : p = N
    · rw [z N (by omega), if_pos e.symm, e, Nat.zero_add]
    · rw [ih (by omega), if_neg (fun q => e q.symm), Nat.zero_mul, Nat.add_zero]
/-- letters put at a free place -/
theorem zs_put (hk : k < 8) (hδ : ∀ i, i < 10 → δ i < 16) {v p : Nat} (hv : v < 16) (hp : p < 10) (h0 : δ p = 0) : nL (zs_r k δ) ||| ((nI v).toInt64 <<< ((5 * nI p).toInt64 &&& 63)) = nL (zs_r k (fun i => if i = p then v else δ i)) := by
  have lt := zs_r_lt hk hδ
  have lv : v * 32 ^ p < 2 ^ 63 := by
    have h1 : v * 32 ^ p ≤ 15 * 32 ^ p := Nat.mul_le_mul_right _ (by omega)
    have h2 : 32 ^ p ≤ 32 ^ 9 := Nat.pow_le_pow_right (by omega) (by omega)
    have : (15 : Nat) * 32 ^ 9 < 2 ^ 63 := by decide
    omega
  rw [nL_put5 hv hp, nL_orr lt lv, ← zs_one_c (N := 11) (v := v) (p := p) (by omega)]
  unfold zs_r
  rw [zs_or (zs_11_lt hk hδ) (fun i _ => by split <;> omega)]
  congr 1
  refine zs_c_cong (fun i hi => ?_)
  unfold zs_11
  try dsimp only
  by_cases e : i = p
  · rw [if_pos e, if_pos (by omega), if_pos (by omega), if_pos e, e, h0, Nat.zero_or]
  · rw [if_neg e, Nat.or_zero]
    by_cases e2 : i < 10
    · rw [if_pos e2, if_pos e2, if_neg e]
    · rw [if_neg e2, if_neg e2]
theorem zs_r_0 : nL (zs_r 0 (fun _ => 0)) = 0 := by decide
theorem zs_r_mark {g : Nat} (hg : g < 7) : ((nI g + 1).toInt64 <<< ((50 : Int32).toInt64 &&& 63)) = nL (zs_r (g + 1) (fun _ => 0)) := by
  have : ∀ g : Fin 7, ((nI g.1 + 1).toInt64 <<< ((50 : Int32).toInt64 &&& 63)) = nL (zs_r (g.1 + 1) (fun _ => 0)) := by decide
  exact this ⟨g, hg⟩
/-- few enough letters everywhere -/
theorem zs_few (hk : k < 8) (hδ : ∀ i, i < 10 → δ i ≤ 8) (hα : ∀ i, i < 10 → α i ≤ 8) : lg_cmp (((nL (zs_c 10 α) ||| (581109629338128 : Int64)) - (nL (zs_r k δ) &&& (1125899906842623 : Int64))) &&& (581109629338128 : Int64)) (581109629338128 : Int64) = 0 ↔ ∀ i, i < 10 → δ i ≤ α i := by
  have dg : ∀ x y, x ≤ 8 → y ≤ 8 → ((y ||| 16) < 32 ∧ x ≤ (y ||| 16) ∧ ((((y ||| 16) - x) &&& 16 = 16) ↔ x ≤ y)) := fun x y hx hy => by
    have : ∀ x y : Fin 9, ((y.1 ||| 16) < 32 ∧ x.1 ≤ (y.1 ||| 16) ∧ ((((y.1 ||| 16) - x.1) &&& 16 = 16) ↔ x.1 ≤ y.1)) := by decide
    exact this ⟨x, by omega⟩ ⟨y, by omega⟩
  have b : ∀ g : Nat → Nat, (∀ i, i < 10 → g i < 32) → zs_c 10 g < 2 ^ 50 := fun g h => zs_c10 h
  have a32 : ∀ i, i < 10 → α i < 32 := fun i hi => by have := hα i hi; omega
  have o32 : ∀ i, i < 10 → α i ||| 16 < 32 := fun i hi => (dg _ _ (hδ i hi) (hα i hi)).1
  have s32 : ∀ i, i < 10 → (α i ||| 16) - δ i < 32 := fun i hi => by have := o32 i hi; omega
  have n32 : ∀ i, i < 10 → ((α i ||| 16) - δ i) &&& 16 < 32 := fun i hi => Nat.lt_of_le_of_lt Nat.and_le_left (s32 i hi)
  have sub := zs_c_sub (N := 10) (g := fun i => α i ||| 16) (e := δ) (fun i hi => (dg _ _ (hδ i hi) (hα i hi)).2.1)
  have l1 := b _ a32
  have l2 := b _ o32
  have l3 := b _ s32
  have l4 := b _ n32
  rw [zs_r_all hk (fun i hi => by have := hδ i hi; omega), zs_tops, nL_orr (by omega) (by decide), zs_or a32 (fun _ _ => by decide), nL_sub (by omega) (by omega), show zs_c 10 (fun i => α i ||| 16) - zs_c 10 δ = zs_c 10 (fun i => (α i ||| 16) - δ i) by omega, nL_and (by omega) (by decide), zs_and s32 (fun _ _ => by decide), nL_cmp (by omega) (by decide)]
  constructor
  · intro e i hi
    exact (dg _ _ (hδ i hi) (hα i hi)).2.2.mp (zs_inj n32 (fun _ _ => by decide) e i hi)
  · intro h
    exact zs_c_cong (fun i hi => (dg _ _ (hδ i hi) (hα i hi)).2.2.mpr (h i hi))
theorem zs_odd (hk : k < 8) (hδ : ∀ i, i < 10 → δ i ≤ 8) (hο : ∀ i, i < 10 → ο i ≤ 1) : lg_cmp ((((nL (zs_r k δ) &&& (1125899906842623 : Int64)) ^^^ nL (zs_c 10 ο)) &&& (36319351833633 : Int64)) &&& nL (zs_c 10 (zg_bt M))) 0 = 0 ↔ ∀ i, i < 10 → M i = true → δ i % 2 = ο i := by
  have dg : ∀ x y, x ≤ 8 → y ≤ 1 → ((x ^^^ y) < 32 ∧ ((((x ^^^ y) &&& 1) &&& 1 = 0) ↔ x % 2 = y)) := fun x y hx hy => by
    have : ∀ x : Fin 9, ∀ y : Fin 2, ((x.1 ^^^ y.1) < 32 ∧ ((((x.1 ^^^ y.1) &&& 1) &&& 1 = 0) ↔ x.1 % 2 = y.1)) := by decide
    exact this ⟨x, by omega⟩ ⟨y, by omega⟩
  have b : ∀ g : Nat → Nat, (∀ i, i < 10 → g i < 32) → zs_c 10 g < 2 ^ 50 := fun g h => zs_c10 h
  have d32 : ∀ i, i < 10 → δ i < 32 := fun i hi => by have := hδ i hi; omega
  have o32 : ∀ i, i < 10 → ο i < 32 := fun i hi => by have := hο i hi; omega
  have x32 : ∀ i, i < 10 → δ i ^^^ ο i < 32 := fun i hi => (dg _ _ (hδ i hi) (hο i hi)).1
  have y32 : ∀ i, i < 10 → (δ i ^^^ ο i) &&& 1 < 32 := fun i hi => Nat.lt_of_le_of_lt Nat.and_le_left (x32 i hi)
  have z32 : ∀ i, i < 10 → ((δ i ^^^ ο i) &&& 1) &&& zg_bt M i < 32 := fun i hi => Nat.lt_of_le_of_lt Nat.and_le_left (y32 i hi)
  have l1 := b _ d32
  have l2 := b _ o32
  have l3 := b _ x32
  have l4 := b _ y32
  have l5 := b _ z32
  rw [zs_r_all hk (fun i hi => by have := hδ i hi; omega), nL_xor (by omega) (by omega), zs_xor d32 o32, zs_ones, nL_and (by omega) (by decide), zs_and x32 (fun _ _ => by decide), nL_and (by omega) zs_bt_lt, zs_and y32 zs_bt32, show (0 : Int64) = nL (zs_c 10 (fun _ => 0)) by decide, nL_cmp (by omega) (by decide)]
  constructor
  · intro e i hi hm
    have := zs_inj z32 (fun _ _ => by decide) e i hi
    try dsimp only at this
    rw [zg_bt_1 hm] at this
    exact (dg _ _ (hδ i hi) (hο i hi)).2.mp this
  · intro h
    refine zs_c_cong (fun i hi => ?_)
    try dsimp only
    cases hm : M i with
    | false => rw [zg_bt_0 hm, Nat.and_zero]
    | true => rw [zg_bt_1 hm]; exact (dg _ _ (hδ i hi) (hο i hi)).2.mpr (h i hi hm)
end SD
