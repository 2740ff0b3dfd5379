/-! ===== bits of people ===== -/
def zy_orN (p : Nat → Bool) : Nat → Nat
  | 0 => 0
  | i + 1 => if p i then zy_orN p i + 2 ^ i else zy_orN p i
theorem zy_orN_lt (p : Nat → Bool) : ∀ n, zy_orN p n < 2 ^ n
  | 0 => by simp [zy_orN]
  | n + 1 => by
    have := zy_orN_lt p n
    rw [zy_orN, Nat.pow_succ]
    split <;> omega
theorem zy_shl1 : ∀ i : Nat, i < 31 → (1 : Int32) <<< (nI i &&& 31) = nI (2 ^ i) := by decide
theorem zy_or_nI (p : Nat → Bool) : ∀ n, n ≤ 31 → zy_or p n = nI (zy_orN p n)
  | 0, _ => rfl
  | n + 1, h => by
    rw [zy_or, zy_orN, zy_or_nI p n (by omega)]
    split
    · rw [zy_shl1 n (by omega)]
      have hl := zy_orN_lt p n
      have e : zy_orN p n + 2 ^ n = 2 ^ n * 1 + zy_orN p n := by omega
      rw [e, Nat.two_pow_add_eq_or_of_lt hl, Nat.mul_one]
      apply Int32.toBitVec_inj.mp
      show (nI (zy_orN p n)).toBitVec ||| (nI (2 ^ n)).toBitVec = (nI (2 ^ n ||| zy_orN p n)).toBitVec
      apply BitVec.eq_of_toNat_eq
      have h1 : 2 ^ n < 2 ^ 31 := Nat.pow_lt_pow_right (by omega) (by omega)
      have h2 : (2 ^ n ||| zy_orN p n) < 2 ^ 31 := Nat.or_lt_two_pow h1 (by omega)
      rw [BitVec.toNat_or, pk_tn (by omega), pk_tn (by omega), pk_tn (by omega), Nat.or_comm]
    · rfl
theorem zy_orN_bit (p : Nat → Bool) : ∀ n i, (zy_orN p n).testBit i = (decide (i < n) && p i)
  | 0, i => by simp [zy_orN]
  | n + 1, i => by
    have hl := zy_orN_lt p n
    have ih := zy_orN_bit p n i
    have base : (if p n then zy_orN p n + 2 ^ n else zy_orN p n).testBit i = if i = n then p n else (zy_orN p n).testBit i := by
      by_cases hp : p n
      · rw [if_pos hp]
        have e : zy_orN p n + 2 ^ n = 2 ^ n * 1 + zy_orN p n := by omega
        rw [e, Nat.two_pow_add_eq_or_of_lt hl, Nat.mul_one, Nat.testBit_or, Nat.testBit_two_pow]
        by_cases hi : i = n
        · subst hi; simp [hp]
        · simp [hi, Ne.symm hi]
      · rw [if_neg hp]
        by_cases hi : i = n
        · subst hi
          rw [if_pos rfl, Nat.testBit_lt_two_pow hl]
          simpa using hp
        · rw [if_neg hi]
    rw [zy_orN, base, ih]
    by_cases hi : i = n
    · subst hi; simp
    · have : decide (i < n + 1) = decide (i < n) := by rw [decide_eq_decide]; omega
      rw [if_neg hi, this]
theorem zy_smod : ∀ i : Nat, i < 31 → ((nI i &&& 31).toBitVec.smod 32).toNat = i := by decide
/-- the test of a bit -/
theorem zy_test {c i : Nat} (hc : c < 2 ^ 31) (hi : i < 31) : ((nI c >>> (nI i &&& 31)) &&& (1 : Int32)) = nI (if c.testBit i then 1 else 0) := by
  rw [pk_shrN hc _ i (zy_smod i hi)]
  have h1 : c / 2 ^ i < 2 ^ 32 := Nat.lt_of_le_of_lt (Nat.div_le_self _ _) (by omega)
  rw [pk_andN h1 1 (by decide)]
  congr 1
  rw [Nat.testBit_eq_decide_div_mod_eq, Nat.pow_one]
  have : c / 2 ^ i % 2 = 0 ∨ c / 2 ^ i % 2 = 1 := by omega
  rcases this with h | h <;> simp [h]
theorem zy_test0 {c i : Nat} (hc : c < 2 ^ 31) (hi : i < 31) : ((nI c >>> (nI i &&& 31)) &&& (1 : Int32)) = 0 ↔ c.testBit i = false := by
  rw [zy_test hc hi]
  cases c.testBit i <;> decide
theorem zy_test1 {c i : Nat} (hc : c < 2 ^ 31) (hi : i < 31) : ((nI c >>> (nI i &&& 31)) &&& (1 : Int32)) = 1 ↔ c.testBit i = true := by
  rw [zy_test hc hi]
  cases c.testBit i <;> decide
/-- how many bits -/
def zy_pop (c : Nat) : Nat := (List.range 10).foldl (fun s i => s + c / 2 ^ i % 2) 0
section YN
variable {l : Launch} {E : zx_E} {d : Nat} {I : Nat → Nat → Int32} {L : Nat → Nat → Int64} {Y : zx_Y} {Qo : Option Value → zx_M → Prop} {Q : Int32 → zx_M → Prop} {Qv : zx_M → Prop}
def zy_bcE (x : Int32) : Int32 :=
  let u := fun (x s : Int32) => (x.toUInt32 >>> (s.toUInt32 &&& Int32.toUInt32 31)).toInt32
  let a := x - (u x 1 &&& 1431655765)
  let b := (a &&& 858993459) + (u a 2 &&& 858993459)
  let c := (b + u b 4) &&& 252645135
  let e := c + u c 8
  let f := e + u e 16
  f &&& 63
set_option maxRecDepth 100000 in
theorem zy_bc_all : ((List.range 1024).all fun c => decide (zy_bcE (nI c) = nI (zy_pop c))) = true := by decide +kernel
/-- Integer.bitCount, of bits of people -/
theorem zy_266 (hY : zx_lay Y) {c : Nat} (hc : c < 1024) (hq : Q (nI (zy_pop c)) (I, L, Y)) : zx_Ci l E d 266 [.int (nI c)] (I, L, Y) Q := by
  refine sg_266_0 hY _ ⟨_, rfl, ?_⟩
  have e : zy_bcE (nI c) = nI (zy_pop c) := of_decide_eq_true (List.all_eq_true.mp zy_bc_all c (List.mem_range.mpr hc))
  rw [← e] at hq
  exact hq
def zy_us (x s : Int32) : Int32 := (x.toUInt32 >>> (s.toUInt32 &&& Int32.toUInt32 31)).toInt32
def zy_nt4 (p : Int32 × Int32) : Int32 := p.2 + zy_us p.1 1
def zy_nt3 (p : Int32 × Int32) : Int32 := zy_nt4 (if p.1 ≤ 4 then p else (zy_us p.1 2, p.2 + 2))
def zy_nt2 (p : Int32 × Int32) : Int32 := zy_nt3 (if p.1 ≤ 16 then p else (zy_us p.1 4, p.2 + 4))
def zy_nt1 (p : Int32 × Int32) : Int32 := zy_nt2 (if p.1 ≤ 256 then p else (zy_us p.1 8, p.2 + 8))
def zy_ntE (x : Int32) : Int32 := if 0 < ((x ^^^ (-1)) &&& (x - 1)) then zy_nt1 (if ((x ^^^ (-1)) &&& (x - 1)) ≤ 65536 then ((x ^^^ (-1)) &&& (x - 1), 1) else (zy_us ((x ^^^ (-1)) &&& (x - 1)) 16, 1 + 16)) else ((x ^^^ (-1)) &&& (x - 1)) &&& 32
theorem zy_265_74 (hY : zx_lay Y) {p : Int32 × Int32} (hq : Qo (some (.int (zy_nt4 p))) (I, L, Y)) : zx_To l E d 265 74 [some (.int p.1), some (.int p.2)] [] (I, L, Y) Qo := sg_265_74 hY _ _ hq
theorem zy_265_62 (hY : zx_lay Y) {p : Int32 × Int32} (hq : Qo (some (.int (zy_nt3 p))) (I, L, Y)) : zx_To l E d 265 62 [some (.int p.1), some (.int p.2)] [] (I, L, Y) Qo := by
  unfold zy_nt3 at hq
  refine sg_265_62 hY _ _ ⟨fun h => ?_, fun h => ?_⟩
  · rw [if_pos h] at hq; exact zy_265_74 hY hq
  · rw [if_neg h] at hq; exact zy_265_74 (p := (_, _)) hY hq
theorem zy_265_49 (hY : zx_lay Y) {p : Int32 × Int32} (hq : Qo (some (.int (zy_nt2 p))) (I, L, Y)) : zx_To l E d 265 49 [some (.int p.1), some (.int p.2)] [] (I, L, Y) Qo := by
  unfold zy_nt2 at hq
  refine sg_265_49 hY _ _ ⟨fun h => ?_, fun h => ?_⟩
  · rw [if_pos h] at hq; exact zy_265_62 hY hq
  · rw [if_neg h] at hq; exact zy_265_62 (p := (_, _)) hY hq
theorem zy_265_34 (hY : zx_lay Y) {p : Int32 × Int32} (hq : Qo (some (.int (zy_nt1 p))) (I, L, Y)) : zx_To l E d 265 34 [some (.int p.1), some (.int p.2)] [] (I, L, Y) Qo := by
  unfold zy_nt1 at hq
  refine sg_265_34 hY _ _ ⟨fun h => ?_, fun h => ?_⟩
  · rw [if_pos h] at hq; exact zy_265_49 hY hq
  · rw [if_neg h] at hq; exact zy_265_49 (p := (_, _)) hY hq
theorem zy_265E (hY : zx_lay Y) {x : Int32} (hq : Q (zy_ntE x) (I, L, Y)) : zx_Ci l E d 265 [.int x] (I, L, Y) Q := by
  unfold zy_ntE at hq
  refine sg_265_0 hY _ ⟨fun h1 => ?_, fun h1 => ?_⟩
  · rw [if_pos h1] at hq
    refine ⟨fun h2 => ?_, fun h2 => ?_⟩
    · rw [if_pos h2] at hq; exact zy_265_34 (p := (_, _)) hY ⟨_, rfl, hq⟩
    · rw [if_neg h2] at hq; exact zy_265_34 (p := (_, _)) hY ⟨_, rfl, hq⟩
  · rw [if_neg h1] at hq
    exact ⟨_, rfl, hq⟩
/-- the lowest bit of c, 32 for 0 -/
def zy_low (c : Nat) : Nat := if c = 0 then 32 else ((List.range 10).find? (fun i => c.testBit i)).getD 32
set_option maxRecDepth 100000 in
theorem zy_nt_all : ((List.range 1024).all fun c => decide (zy_ntE (nI c) = nI (zy_low c))) = true := by decide +kernel
theorem zy_265 (hY : zx_lay Y) {c : Nat} (hc : c < 1024) (hq : Q (nI (zy_low c)) (I, L, Y)) : zx_Ci l E d 265 [.int (nI c)] (I, L, Y) Q := by
  refine zy_265E hY ?_
  rw [of_decide_eq_true (List.all_eq_true.mp zy_nt_all c (List.mem_range.mpr hc))]
  exact hq
end YN
