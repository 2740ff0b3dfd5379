/-! ===== the crowd of the class and of the reference ===== -/
def zy_chain (nm : Nat → Int32) : List (Nat × Nat) → Prop
  | [] => True
  | q :: H => (∀ p, p < 10 → q.1.testBit p = true → nm p = nI (q.2 / 7)) ∧ zy_chain (fun p => if q.1.testBit p then nI q.2 else nm p) H
theorem zy_chain_cong : ∀ (H : List (Nat × Nat)) (f g : Nat → Int32), (∀ p, p < 10 → f p = g p) → zy_chain f H → zy_chain g H
  | [], _, _, _, _ => trivial
  | q :: H, f, g, h, hc => ⟨fun p hp hb => by rw [← h p hp]; exact hc.1 p hp hb, zy_chain_cong H _ _ (fun p hp => by rw [h p hp]) hc.2⟩
theorem zy_chain_take : ∀ (n : Nat) (H : List (Nat × Nat)) (f : Nat → Int32), zy_chain f H → zy_chain f (H.take n)
  | 0, _, _, _ => by rw [List.take_zero]; trivial
  | n + 1, [], _, _ => by rw [List.take_nil]; trivial
  | n + 1, q :: H, f, h => by rw [List.take_succ_cons]; exact ⟨h.1, zy_chain_take n H _ h.2⟩
theorem zy_orN_cong {p q : Nat → Bool} : ∀ {n : Nat}, (∀ i, i < n → p i = q i) → zy_orN p n = zy_orN q n
  | 0, _ => rfl
  | n + 1, h => by
    rw [zy_orN, zy_orN, zy_orN_cong (fun i hi => h i (by omega)), h n (by omega)]
theorem zy_orN_ext {p : Nat → Bool} {m : Nat} : ∀ {n : Nat}, m ≤ n → (∀ i, m ≤ i → i < n → p i = false) → zy_orN p n = zy_orN p m
  | 0, h, _ => by rw [show m = 0 by omega]
  | n + 1, h, hp => by
    by_cases e : m = n + 1
    · rw [e]
    · rw [zy_orN, hp n (by omega) (by omega)]
      exact zy_orN_ext (by omega) (fun i h1 h2 => hp i h1 (by omega))
/-- P people, sides S, boat b, the log H (the latest first), its next place r -/
def zc_C (I : Nat → Nat → Int32) (P S b r : Nat) (H : List (Nat × Nat)) : Prop :=
  (P ≤ 10 ∧ I 8 7 = nI P ∧ I 132 3 = nI P) ∧
  (∀ p, p < 10 → zy_is (I 9 p) = true) ∧
  (∀ p, p < P → I 134 p = I 9 p ∧ I 135 p = I 10 p ∧ I 136 p = nI (if S.testBit p then 1 else 0)) ∧
  (∀ p, P ≤ p → p < 10 → I 9 p = 0 ∧ I 10 p = 0) ∧
  (S < 2 ^ P ∧ I 8 8 = nI S) ∧
  (1 ≤ b ∧ b ≤ 10 ∧ I 8 9 = nI b ∧ I 132 8 = nI b) ∧
  (r ≤ 60 ∧ I 8 6 = nI r ∧ H.length ≤ 60 ∧ I 8 5 = nI H.length ∧ I 132 10 = nI H.length) ∧
  (∀ (t : Nat) (q : Nat × Nat), H[t]? = some q → q.1 < 2 ^ P ∧ q.2 < 5764801 ∧ q.2 ≠ 0 ∧ zy_dig q.2 = true ∧ I 12 ((r + 59 - t) % 60) = nI q.1 ∧ I 13 ((r + 59 - t) % 60) = nI (q.2 % 7) ∧ I 138 (H.length - 1 - t) = nI q.2 ∧ I 139 (H.length - 1 - t) = nI q.1) ∧
  zy_chain (I 9) H
theorem zy_is_of {x : Int32} (h : zy_is x = true) : ∃ c : Nat, x = nI c ∧ c < 5764801 ∧ zy_dig c = true := by
  simp only [zy_is, Bool.and_eq_true, decide_eq_true_eq] at h
  obtain ⟨⟨h1, h2⟩, h3⟩ := h
  obtain ⟨c, hc, rfl⟩ := nI_of (Int32.not_lt.mpr h1)
  rw [nI_toInt hc] at h2 h3
  exact ⟨c, rfl, by omega, by simpa using h3⟩
theorem zy_is_mk {c : Nat} (h1 : c < 5764801) (h2 : zy_dig c = true) : zy_is (nI c) = true := by
  rw [zy_is_nI (by omega), decide_eq_true h1, h2]; rfl
theorem zy_dig_d {c : Nat} (h : zy_dig c = true) : zy_dig (c / 7) = true := by
  by_cases h0 : c = 0
  · subst h0; exact h
  · rw [zy_dig_s h0, Bool.and_eq_true] at h; exact h.2
theorem zy_xor (a b : Nat) (ha : a < 2 ^ 31) (hb : b < 2 ^ 31) : nI a ^^^ nI b = nI (a ^^^ b) := by
  apply Int32.toBitVec_inj.mp
  show (nI a).toBitVec ^^^ (nI b).toBitVec = (nI (a ^^^ b)).toBitVec
  apply BitVec.eq_of_toNat_eq
  have h2 : (a ^^^ b) < 2 ^ 31 := Nat.xor_lt_two_pow ha hb
  rw [BitVec.toNat_xor, pk_tn (by omega), pk_tn (by omega), pk_tn (by omega)]
section YCo
variable {I : Nat → Nat → Int32} {x : Int32} {c r m P : Nat}
theorem zy_co_9 {k : Nat} (hk : k < 10) : zy_co I x c r m 9 k = if c.testBit k then I 9 k / 7 else I 9 k := by
  unfold zy_co zy_lg0
  rw [if_neg (by omega), if_neg (by omega), if_neg (by omega), if_neg (by omega), zy_u2_na (by omega)]
  unfold zy_ch
  by_cases h : c.testBit k = true
  · rw [if_pos ⟨rfl, hk, h⟩, if_pos h]
  · rw [if_neg (fun q => h q.2.2), if_neg (by omega), if_neg h]
theorem zy_co_10 {k : Nat} (hk : k < 10) : zy_co I x c r m 10 k = if c.testBit k then I 10 k + 1 else I 10 k := by
  unfold zy_co zy_lg0
  rw [if_neg (by omega), if_neg (by omega), if_neg (by omega), if_neg (by omega), zy_u2_na (by omega)]
  unfold zy_ch
  by_cases h : c.testBit k = true
  · rw [if_neg (by omega), if_pos ⟨rfl, hk, h⟩, if_pos h]
  · rw [if_neg (by omega), if_neg (fun q => h q.2.2), if_neg h]
theorem zy_co_86 : zy_co I x c r m 8 6 = nI (r % 60 + 1) := by unfold zy_co zy_lg0; rw [if_neg (by omega), if_pos ⟨rfl, rfl⟩]
theorem zy_co_85 : zy_co I x c r m 8 5 = nI (if m + 1 ≤ 60 then m + 1 else 60) := by unfold zy_co zy_lg0; rw [if_pos ⟨rfl, rfl⟩]
theorem zy_co_88 : zy_co I x c r m 8 8 = I 8 8 ^^^ nI c := by unfold zy_co zy_lg0; rw [if_neg (by omega), if_neg (by omega), if_neg (by omega), if_neg (by omega), zy_u2_self]
theorem zy_co_12 {k : Nat} : zy_co I x c r m 12 k = if k = r % 60 then nI c else I 12 k := by
  unfold zy_co zy_lg0
  rw [if_neg (by omega), if_neg (by omega), if_neg (by omega)]
  by_cases h : k = r % 60
  · rw [if_pos ⟨rfl, h⟩, if_pos h]
  · rw [if_neg (fun q => h q.2), if_neg h, zy_u2_na (by omega), zy_ch_at (by omega) (by omega)]
theorem zy_co_13 {k : Nat} : zy_co I x c r m 13 k = if k = r % 60 then x - x / 7 * 7 else I 13 k := by
  unfold zy_co zy_lg0
  rw [if_neg (by omega), if_neg (by omega)]
  by_cases h : k = r % 60
  · rw [if_pos ⟨rfl, h⟩, if_pos h]
  · rw [if_neg (fun q => h q.2), if_neg h, if_neg (by omega), zy_u2_na (by omega), zy_ch_at (by omega) (by omega)]
theorem zy_co_el {a k : Nat} (h : a ≠ 9 ∧ a ≠ 10 ∧ a ≠ 12 ∧ a ≠ 13 ∧ ¬ (a = 8 ∧ (k = 5 ∨ k = 6 ∨ k = 8))) : zy_co I x c r m a k = I a k := by
  unfold zy_co zy_lg0
  rw [if_neg (by omega), if_neg (by omega), if_neg (by omega), if_neg (by omega), zy_u2_ne (by omega), zy_ch_at (by omega) (by omega)]
theorem zy_mc_134 {k : Nat} (hk : k < P) : zy_mc I x c P m 134 k = if c.testBit k then x / 7 else I 134 k := by
  unfold zy_mc
  rw [if_neg (by omega), if_neg (by omega), if_neg (by omega), if_neg (by omega)]
  unfold zy_ns
  by_cases h : c.testBit k = true
  · rw [if_pos ⟨rfl, hk, h⟩, if_pos h]
  · rw [if_neg (fun q => h q.2.2), if_neg h, zy_ch_at (by omega) (by omega)]
theorem zy_mc_135 {k : Nat} (hk : k < P) : zy_mc I x c P m 135 k = if c.testBit k then I 135 k + 1 else I 135 k := by
  unfold zy_mc
  rw [if_neg (by omega), if_neg (by omega), if_neg (by omega), if_neg (by omega)]
  unfold zy_ns zy_ch
  rw [if_neg (by omega)]
  by_cases h : c.testBit k = true
  · rw [if_pos ⟨rfl, hk, h⟩, if_pos h]
  · rw [if_neg (fun q => h q.2.2), if_neg (by omega), if_neg h]
theorem zy_mc_136 {k : Nat} (hk : k < P) : zy_mc I x c P m 136 k = if c.testBit k then 1 - I 136 k else I 136 k := by
  unfold zy_mc
  rw [if_neg (by omega), if_neg (by omega), if_neg (by omega), if_neg (by omega)]
  unfold zy_ns zy_ch
  rw [if_neg (by omega), if_neg (by omega)]
  by_cases h : c.testBit k = true
  · rw [if_pos ⟨rfl, hk, h⟩, if_pos h]
  · rw [if_neg (fun q => h q.2.2), if_neg h]
theorem zy_mc_10 : zy_mc I x c P m 132 10 = nI (if m + 1 ≤ 60 then m + 1 else 60) := by unfold zy_mc; rw [if_pos ⟨rfl, rfl⟩]
theorem zy_mc_138 {k : Nat} (hm : m ≤ 60) (hk : k < 60) : zy_mc I x c P m 138 k = if k = (if m = 60 then 59 else m) then x else if m = 60 then I 138 (k + 1) else I 138 k := by
  unfold zy_mc
  rw [if_neg (by omega), if_neg (by omega)]
  by_cases h : k = (if m = 60 then 59 else m)
  · rw [if_pos ⟨rfl, h⟩, if_pos h]
  · rw [if_neg (fun q => h q.2), if_neg h]
    by_cases h6 : m = 60
    · rw [if_pos h6] at h
      rw [if_pos ⟨h6, Or.inl rfl, by omega⟩, if_pos h6]
    · rw [if_neg (fun q => h6 q.1), if_neg h6]
      unfold zy_ns
      rw [if_neg (by omega), zy_ch_at (by omega) (by omega)]
theorem zy_mc_139 {k : Nat} (hm : m ≤ 60) (hk : k < 60) : zy_mc I x c P m 139 k = if k = (if m = 60 then 59 else m) then nI c else if m = 60 then I 139 (k + 1) else I 139 k := by
  unfold zy_mc
  rw [if_neg (by omega)]
  by_cases h : k = (if m = 60 then 59 else m)
  · rw [if_pos ⟨rfl, h⟩, if_pos h]
  · rw [if_neg (fun q => h q.2), if_neg (by omega), if_neg h]
    by_cases h6 : m = 60
    · rw [if_pos h6] at h
      rw [if_pos ⟨h6, Or.inr rfl, by omega⟩, if_pos h6]
    · rw [if_neg (fun q => h6 q.1), if_neg h6]
      unfold zy_ns
      rw [if_neg (by omega), zy_ch_at (by omega) (by omega)]
theorem zy_mc_el {a k : Nat} (h : a ≠ 134 ∧ a ≠ 135 ∧ a ≠ 136 ∧ a ≠ 138 ∧ a ≠ 139 ∧ ¬ (a = 132 ∧ k = 10)) : zy_mc I x c P m a k = I a k := by
  unfold zy_mc
  rw [if_neg (by omega), if_neg (by omega), if_neg (by omega), if_neg (by omega)]
  unfold zy_ns
  rw [if_neg (by omega), zy_ch_at (by omega) (by omega)]
end YCo
/-- those who have a name, in the class and in the reference -/
theorem zc_who {I : Nat → Nat → Int32} {P S b r : Nat} {H : List (Nat × Nat)} (h : zc_C I P S b r H) {x : Int32} (hx : x ≠ 0) : zy_orN (fun p => decide (I 134 p = x)) P = zy_orN (fun p => decide (I 9 p = x)) 10 := by
  obtain ⟨⟨hP, -⟩, -, hn, hz, -⟩ := h
  rw [zy_orN_cong (q := fun p => decide (I 9 p = x)) (fun p hp => by rw [(hn p hp).1])]
  refine (zy_orN_ext hP (fun p h1 h2 => ?_)).symm
  have : ¬ I 9 p = x := by rw [(hz p h1 h2).1]; exact fun q => hx q.symm
  exact decide_eq_false this
theorem zc_call {I : Nat → Nat → Int32} {P S b r : Nat} {H : List (Nat × Nat)} (h : zc_C I P S b r H) {cd c : Nat} (hcd : cd < 5764801) (h0 : cd ≠ 0) (hdig : zy_dig cd = true) (hc : c = zy_orN (fun p => decide (I 9 p = nI cd)) 10) :
    zc_C (zy_mc (zy_co I (nI cd) c r H.length) (nI cd) c P H.length) P (S ^^^ c) b (r % 60 + 1) (((c, cd) :: H).take 60) := by
  have hwho := zc_who h (x := nI cd) (fun q => h0 ((zy_eq0 (by omega)).mp q))
  obtain ⟨⟨hP, h7, h3⟩, his, hn, hz, ⟨hS, h8⟩, ⟨hb1, hb2, hb3, hb4⟩, ⟨hr, h6, hl, h5, h10⟩, hlog, hch⟩ := h
  have hcP : c < 2 ^ P := by rw [hc, ← hwho]; exact zy_orN_lt _ P
  have hP2 : (2 : Nat) ^ P ≤ 1024 := Nat.pow_le_pow_right (by omega) hP
  have hbit : ∀ p, p < 10 → (c.testBit p = true ↔ I 9 p = nI cd) := fun p hp => by
    rw [hc, zy_orN_bit, decide_eq_true hp, Bool.true_and, decide_eq_true_iff]
  have hlen : (((c, cd) :: H).take 60).length = if H.length + 1 ≤ 60 then H.length + 1 else 60 := by
    rw [List.length_take, List.length_cons]; split <;> omega
  have e7 : nI cd / 7 = nI (cd / 7) := zy_d7 (by omega)
  have n9 : ∀ p, p < 10 → zy_co I (nI cd) c r H.length 9 p = if c.testBit p then nI (cd / 7) else I 9 p := fun p hp => by
    rw [zy_co_9 hp]
    by_cases hb : c.testBit p = true
    · rw [if_pos hb, if_pos hb, (hbit p hp).mp hb, e7]
    · rw [if_neg hb, if_neg hb]
  refine ⟨⟨hP, ?_, ?_⟩, fun p hp => ?_, fun p hp => ?_, fun p hp1 hp2 => ?_, ⟨Nat.xor_lt_two_pow hS hcP, ?_⟩, ⟨hb1, hb2, ?_, ?_⟩, ⟨by omega, ?_, ?_, ?_, ?_⟩, fun t q hq => ?_, ?_⟩
  · rw [zy_mc_el (by omega), zy_co_el (by omega)]; exact h7
  · rw [zy_mc_el (by omega), zy_co_el (by omega)]; exact h3
  · rw [zy_mc_el (by omega), n9 p hp]
    split
    · exact zy_is_mk (by omega) (zy_dig_d hdig)
    · exact his p hp
  · have hp10 : p < 10 := by omega
    obtain ⟨g1, g2, g3⟩ := hn p hp
    refine ⟨?_, ?_, ?_⟩
    · rw [zy_mc_134 hp, zy_mc_el (by omega), zy_co_el (by omega), n9 p hp10, e7, g1]
    · rw [zy_mc_135 hp, zy_mc_el (by omega), zy_co_el (by omega), zy_co_10 hp10, g2]
    · rw [zy_mc_136 hp, zy_co_el (by omega), g3, Nat.testBit_xor]
      cases S.testBit p <;> cases c.testBit p <;> decide
  · obtain ⟨g1, g2⟩ := hz p hp1 hp2
    have hb : ¬ c.testBit p = true := fun q => by
      have := (hbit p hp2).mp q
      rw [g1] at this
      exact h0 ((zy_eq0 (by omega)).mp this.symm)
    refine ⟨?_, ?_⟩
    · rw [zy_mc_el (by omega), n9 p hp2, if_neg hb]; exact g1
    · rw [zy_mc_el (by omega), zy_co_10 hp2, if_neg hb]; exact g2
  · rw [zy_mc_el (by omega), zy_co_88, h8, zy_xor _ _ (by omega) (by omega)]
  · rw [zy_mc_el (by omega), zy_co_el (by omega)]; exact hb3
  · rw [zy_mc_el (by omega), zy_co_el (by omega)]; exact hb4
  · rw [zy_mc_el (by omega), zy_co_86]
  · rw [hlen]; split <;> omega
  · rw [zy_mc_el (by omega), zy_co_85, hlen]
  · rw [zy_mc_10, hlen]
  · rw [List.getElem?_take] at hq
    split at hq
    · rename_i ht
      have hm1 : zy_mc (zy_co I (nI cd) c r H.length) (nI cd) c P H.length 12 ((r % 60 + 1 + 59 - t) % 60) = zy_co I (nI cd) c r H.length 12 ((r % 60 + 1 + 59 - t) % 60) := zy_mc_el (by omega)
      have hm2 : zy_mc (zy_co I (nI cd) c r H.length) (nI cd) c P H.length 13 ((r % 60 + 1 + 59 - t) % 60) = zy_co I (nI cd) c r H.length 13 ((r % 60 + 1 + 59 - t) % 60) := zy_mc_el (by omega)
      rw [hm1, hm2, zy_co_12, zy_co_13, hlen]
      cases t with
      | zero =>
        cases hq
        have e1 : (r % 60 + 1 + 59 - 0) % 60 = r % 60 := by omega
        have hk : (if H.length + 1 ≤ 60 then H.length + 1 else 60) - 1 - 0 = if H.length = 60 then 59 else H.length := by split <;> split <;> omega
        rw [e1, if_pos rfl, if_pos rfl, hk, zy_mc_138 hl (by split <;> omega), zy_mc_139 hl (by split <;> omega), if_pos rfl, if_pos rfl]
        exact ⟨hcP, hcd, h0, hdig, rfl, zy_r7 (by omega), rfl, rfl⟩
      | succ t =>
        have hq' : H[t]? = some q := by simpa using hq
        have htl : t < H.length := (List.getElem?_eq_some_iff.mp hq').1
        obtain ⟨g1, g2, g3, g4, g5, g6, g7, g8⟩ := hlog t q hq'
        have e1 : (r % 60 + 1 + 59 - (t + 1)) % 60 = (r + 59 - t) % 60 := by omega
        have e2 : ¬ (r + 59 - t) % 60 = r % 60 := by omega
        rw [e1, if_neg e2, if_neg e2]
        have hk : (if H.length + 1 ≤ 60 then H.length + 1 else 60) - 1 - (t + 1) < 60 := by split <;> omega
        rw [zy_mc_138 hl hk, zy_mc_139 hl hk]
        have hk2 : ¬ ((if H.length + 1 ≤ 60 then H.length + 1 else 60) - 1 - (t + 1) = if H.length = 60 then 59 else H.length) := by split <;> split <;> omega
        rw [if_neg hk2, if_neg hk2]
        refine ⟨g1, g2, g3, g4, g5, g6, ?_, ?_⟩
        · split
          · rename_i h60
            rw [zy_co_el (by omega), ← g7, if_neg (by omega)]
            congr 1
            omega
          · rename_i h60
            rw [zy_co_el (by omega), ← g7, if_pos (by omega)]
            congr 1
            omega
        · split
          · rename_i h60
            rw [zy_co_el (by omega), ← g8, if_neg (by omega)]
            congr 1
            omega
          · rename_i h60
            rw [zy_co_el (by omega), ← g8, if_pos (by omega)]
            congr 1
            omega
    · cases hq
  · have base : zy_chain (fun p => zy_mc (zy_co I (nI cd) c r H.length) (nI cd) c P H.length 9 p) ((c, cd) :: H) := by
      refine ⟨fun p hp hb => ?_, zy_chain_cong H _ _ (fun p hp => ?_) hch⟩
      · show zy_mc (zy_co I (nI cd) c r H.length) (nI cd) c P H.length 9 p = _
        rw [zy_mc_el (by omega), n9 p hp, if_pos hb]
      · dsimp only
        by_cases hb : c.testBit p = true
        · rw [if_pos hb]; exact (hbit p hp).mp hb
        · rw [if_neg hb, zy_mc_el (by omega), n9 p hp, if_neg hb]
    exact zy_chain_take 60 _ _ base
