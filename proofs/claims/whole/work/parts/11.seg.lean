/-! ===== what must hold before an instruction, so that what must hold behind it does ===== -/
/-- a call of b with these arguments, F behind it -/
def zx_call (l : Launch) (E : zx_E) (d b : Nat) (as : List Value) (M : zx_M) (ls : List (Option Value)) (rest : List Value) (F : List (Option Value) → List Value → zx_M → Prop) : Prop := match Nat.ble (zx_sw8 rest) 8 && Nat.ble (zx_en as).length (zx_mL b) with
  | false => False
  | true => match d with
    | 0 => False
    | d + 1 => match zx_rt b with
      | none => zx_Cv l E d b as M (fun M1 => F ls rest M1)
      | some .long => zx_Cl l E d b as M (fun v M1 => F ls (.long v :: rest) M1)
      | some _ => zx_Ci l E d b as M (fun v M1 => F ls (.int v :: rest) M1)
/-- behind what needs a frame of its own -/
def zx_leaf (d : Nat) (rest : List Value) (P : Prop) : Prop := match Nat.ble (zx_sw8 rest) 8 && Nat.ble 1 d with
  | false => False
  | true => P
def zx_one (l : Launch) (E : zx_E) (d k : Nat) (Q : Option Value → zx_M → Prop) (e : zx_En) (F : List (Option Value) → List Value → zx_M → Prop) (J : Nat → List (Option Value) → List Value → zx_M → Prop) (ls : List (Option Value)) (st : List Value) (M : zx_M) : Prop := match e with
  | (pc, _, ins, v, w, _, a, b) => match zx_alu ins v w st with
    | some (none, st1) => F ls st1 M
    | some (some c, st1) => c ∧ F ls st1 M
    | none => match ins with
      | .iload i => match ls[i]? with
        | some (some (.int x)) => F ls (.int x :: st) M
        | _ => False
      | .iload_n i => match ls[(i : Nat)]? with
        | some (some (.int x)) => F ls (.int x :: st) M
        | _ => False
      | .lload i => match ls[i]? with
        | some (some (.long x)) => F ls (.long x :: st) M
        | _ => False
      | .lload_n i => match ls[(i : Nat)]? with
        | some (some (.long x)) => F ls (.long x :: st) M
        | _ => False
      | .aload i => match ls[i]? with
        | some (some (.ref x)) => F ls (.ref x :: st) M
        | _ => False
      | .aload_n i => match ls[(i : Nat)]? with
        | some (some (.ref x)) => F ls (.ref x :: st) M
        | _ => False
      | .istore i => match st with
        | .int x :: st => F (zx_s1 ls i (.int x)) st M
        | _ => False
      | .istore_n i => match st with
        | .int x :: st => F (zx_s1 ls (i : Nat) (.int x)) st M
        | _ => False
      | .astore i => match st with
        | .ref x :: st => F (zx_s1 ls i (.ref x)) st M
        | _ => False
      | .astore_n i => match st with
        | .ref x :: st => F (zx_s1 ls (i : Nat) (.ref x)) st M
        | _ => False
      | .lstore i => match st with
        | .long x :: st => F (zx_s2 ls i (.long x)) st M
        | _ => False
      | .lstore_n i => match st with
        | .long x :: st => F (zx_s2 ls (i : Nat) (.long x)) st M
        | _ => False
      | .iinc i _ => match ls[i]? with
        | some (some (.int x)) => F (zx_s1 ls i (.int (x + v))) st M
        | _ => False
      | .if_icmp cn _ => match st with
        | .int y :: .int x :: st => (zx_cp cn x y → J a ls st M) ∧ (zx_co cn x y → F ls st M)
        | _ => False
      | .ifCond cn _ => match st with
        | .int x :: st => (zx_cp cn x 0 → J a ls st M) ∧ (zx_co cn x 0 → F ls st M)
        | _ => False
      | .goto _ => J a ls st M
      | .tableswitch df lo hi os => match st with
        | .int x :: st => hi + 1 = lo + os.size ∧ ((x.toInt < lo ∨ hi < x.toInt) → J ((pc : Int) + df).toNat ls st M) ∧ zx_sw pc x (fun t => J t ls st M) lo os.toList
        | _ => False
      | .getfield _ => match st with
        | .ref i :: st => zx_is M i a ∧ (match zx_tc (zx_ty a b) with
          | 0 => F ls (.int (M.1 i b) :: st) M
          | 1 => F ls (.long (M.2.1 i b) :: st) M
          | _ => ∃ j, M.2.2.1 i b = some j ∧ F ls (.ref j :: st) M)
        | _ => False
      | .putfield _ => match st with
        | .int x :: .ref i :: st => zx_is M i a ∧ (match zx_nf (zx_ty a b) x with
          | none => F ls st (zx_pi M i b x)
          | some c => c ∧ F ls st (zx_pi M i b x))
        | .long x :: .ref i :: st => zx_is M i a ∧ (match zx_ty a b with
          | .long => F ls st (zx_pl M i b x)
          | _ => False)
        | .ref j :: .ref i :: st => zx_is M i a ∧ (match zx_tc (zx_ty a b) with
          | 2 => F ls st (zx_pr M i b (some j))
          | _ => False)
        | _ => False
      | .getstatic _ => F ls (.ref a :: st) M
      | .iaload => match st with
        | .int j :: .ref i :: st => zx_ia M i ∧ vp_in j (zx_ln M i) ∧ F ls (.int (M.1 i j.toNatClampNeg) :: st) M
        | _ => False
      | .laload => match st with
        | .int j :: .ref i :: st => zx_is M i 21 ∧ vp_in j (zx_ln M i) ∧ F ls (.long (M.2.1 i j.toNatClampNeg) :: st) M
        | _ => False
      | .baload => match st with
        | .int j :: .ref i :: st => (a = 22 ∨ a = 23) ∧ zx_is M i a ∧ vp_in j (zx_ln M i) ∧ F ls (.int (M.1 i j.toNatClampNeg) :: st) M
        | _ => False
      | .aaload => match st with
        | .int j :: .ref i :: st => (3 ≤ i ∧ i < zx_n M ∧ 24 ≤ zx_kd M i ∧ zx_kd M i ≤ 26) ∧ vp_in j (zx_ln M i) ∧ ∃ x, M.2.2.1 i j.toNatClampNeg = some x ∧ F ls (.ref x :: st) M
        | _ => False
      | .iastore => match st with
        | .int x :: .int j :: .ref i :: st => zx_is M i 20 ∧ vp_in j (zx_ln M i) ∧ F ls st (zx_pi M i j.toNatClampNeg x)
        | _ => False
      | .lastore => match st with
        | .long x :: .int j :: .ref i :: st => zx_is M i 21 ∧ vp_in j (zx_ln M i) ∧ F ls st (zx_pl M i j.toNatClampNeg x)
        | _ => False
      | .bastore => match st with
        | .int x :: .int j :: .ref i :: st => (a = 22 ∨ a = 23) ∧ zx_is M i a ∧ vp_in j (zx_ln M i) ∧ F ls st (zx_pi M i j.toNatClampNeg (vp_nar (zx_at a) x))
        | _ => False
      | .aastore => match st with
        | .ref x :: .int j :: .ref i :: st => zx_is M i 26 ∧ vp_in j (zx_ln M i) ∧ zx_is M x 7 ∧ F ls st (zx_pr M i j.toNatClampNeg (some x))
        | _ => False
      | .arraylength => match st with
        | .ref i :: st => ((3 ≤ i ∧ i < zx_n M ∧ 20 ≤ zx_kd M i ∧ zx_kd M i ≤ 26) ∨ i < 3) ∧ F ls (.int (Int32.ofNat (zx_ln M i)) :: st) M
        | _ => False
      | .newarray _ => match st with
        | .int n :: st => ¬ n < 0 ∧ n.toNatClampNeg ≤ 65536 ∧ F ls (.ref (zx_n M) :: st) (zx_nw M a n.toNatClampNeg n.toNatClampNeg)
        | _ => False
      | .anewarray _ => match st with
        | .int n :: st => ¬ n < 0 ∧ n.toNatClampNeg ≤ 65536 ∧ F ls (.ref (zx_n M) :: st) (zx_nw M 26 n.toNatClampNeg n.toNatClampNeg)
        | _ => False
      | .multianewarray _ nd => match st with
        | .int n2 :: .int n1 :: st => nd = 2 ∧ ¬ n1 < 0 ∧ ¬ n2 < 0 ∧ n1.toNatClampNeg ≤ 65536 ∧ n2.toNatClampNeg ≤ 65536 ∧ F ls (.ref (zx_n M) :: st) (zx_mn M a n1.toNatClampNeg n2.toNatClampNeg)
        | _ => False
      | .new _ => match Nat.beq a 99 with
        | true => False
        | false => F ls (.ref (zx_n M) :: st) (zx_nw M a 0 (zx_N a))
      | .invokevirtual _ => match Nat.beq (st.take (zx_np b)).length (zx_np b) with
        | false => False
        | true => match st.drop (zx_np b) with
          | .ref i :: rest => zx_is M i (zx_mc b) ∧ zx_call l E d b (.ref i :: (st.take (zx_np b)).reverse) M ls rest F
          | _ => False
      | .invokestatic _ => match a with
        | 2 => match Nat.beq (st.take (zx_np b)).length (zx_np b) with
          | false => False
          | true => zx_call l E d b (st.take (zx_np b)).reverse M ls (st.drop (zx_np b)) F
        | 4 => match Nat.beq (st.take (zx_np b)).length (zx_np b) with
          | false => False
          | true => zx_call l E d b (st.take (zx_np b)).reverse M ls (st.drop (zx_np b)) F
        | 6 => match st with
          | .int n :: .int dp :: .ref i1 :: .int sp :: .ref i0 :: st => zx_leaf d st (zx_is M i0 20 ∧ zx_is M i1 20 ∧ ¬ sp < 0 ∧ ¬ dp < 0 ∧ ¬ n < 0 ∧ sp.toNatClampNeg + n.toNatClampNeg ≤ zx_ln M i0 ∧ dp.toNatClampNeg + n.toNatClampNeg ≤ zx_ln M i1 ∧ F ls st (zx_cpy M i0 i1 sp.toNatClampNeg dp.toNatClampNeg n.toNatClampNeg))
          | _ => False
        | 7 => match st with
          | .int y :: .int x :: st => zx_leaf d st (F ls (.int (if x < y then y else x) :: st) M)
          | _ => False
        | 8 => match st with
          | .int y :: .int x :: st => zx_leaf d st (F ls (.int (if y < x then y else x) :: st) M)
          | _ => False
        | _ => False
      | .invokespecial _ => match a with
        | 1 => match Nat.beq (st.take (zx_np b)).length (zx_np b) with
          | false => False
          | true => match st.drop (zx_np b) with
            | .ref i :: rest => zx_call l E d b (.ref i :: (st.take (zx_np b)).reverse) M ls rest F
            | _ => False
        | 3 => match Nat.beq (st.take (zx_np b)).length (zx_np b) with
          | false => False
          | true => match st.drop (zx_np b) with
            | .ref i :: rest => zx_call l E d b (.ref i :: (st.take (zx_np b)).reverse) M ls rest F
            | _ => False
        | 5 => match st with
          | .ref _ :: st => zx_leaf d st (F ls st M)
          | _ => False
        | _ => False
      | .ireturn => match st with
        | [.int x] => match zx_rt k with
          | some .int => Q (some (.int x)) M
          | some .boolean => (x = 0 ∨ x = 1) ∧ Q (some (.int x)) M
          | _ => False
        | _ => False
      | .lreturn => match st with
        | [.long x] => match zx_rt k with
          | some .long => Q (some (.long x)) M
          | _ => False
        | _ => False
      | .return_ => match st with
        | [] => match zx_rt k with
          | none => Q none M
          | _ => False
        | _ => False
      | _ => False
theorem zx_leaf_ok {d : Nat} {rest : List Value} {P : Prop} (h : zx_leaf d rest P) : zx_sw8 rest ≤ 8 ∧ 1 ≤ d ∧ P := by
  unfold zx_leaf at h
  split at h
  · exact h.elim
  · rename_i q
    simp only [Bool.and_eq_true] at q
    exact ⟨Nat.le_of_ble_eq_true q.1, Nat.le_of_ble_eq_true q.2, h⟩
/-- a call, taken apart -/
theorem zx_call_ok {l : Launch} {E : zx_E} {d b : Nat} {as : List Value} {M : zx_M} {ls : List (Option Value)} {rest : List Value} {F : List (Option Value) → List Value → zx_M → Prop} (h : zx_call l E d b as M ls rest F) :
    zx_sw8 rest ≤ 8 ∧ (zx_en as).length ≤ zx_mL b ∧ ∃ d', d = d' + 1 ∧ ∃ Qr : Option Value → zx_M → Prop, zx_To l E d' b 0 (zx_ent as (zx_mL b)) [] M Qr ∧ ∀ r1 M1, Qr r1 M1 → F ls (r1.toList ++ rest) M1 := by
  unfold zx_call at h
  split at h
  · exact h.elim
  · rename_i q
    simp only [Bool.and_eq_true] at q
    refine ⟨Nat.le_of_ble_eq_true q.1, Nat.le_of_ble_eq_true q.2, ?_⟩
    split at h
    · exact h.elim
    · rename_i d'
      refine ⟨d', rfl, ?_⟩
      split at h
      · exact ⟨_, h, fun r1 M1 hq => by obtain ⟨rfl, hq⟩ := hq; exact hq⟩
      · exact ⟨_, h, fun r1 M1 hq => by obtain ⟨v, rfl, hq⟩ := hq; exact hq⟩
      · exact ⟨_, h, fun r1 M1 hq => by obtain ⟨v, rfl, hq⟩ := hq; exact hq⟩
theorem zx_take {st : List Value} {n : Nat} : (st.take n).reverse.reverse ++ st.drop n = st := by rw [List.reverse_reverse, List.take_append_drop]
section ZG
variable {l : Launch} {E : zx_E} {d k pc len p0 a b : Nat} {ins : Instr} {v0 : Int32} {w0 : Int64} {ls : List (Option Value)} {st : List Value} {M : zx_M} {Q : Option Value → zx_M → Prop} {F : List (Option Value) → List Value → zx_M → Prop} {J : Nat → List (Option Value) → List Value → zx_M → Prop}
set_option maxHeartbeats 4000000 in
theorem zx_one_ok (hc : zx_chk k (pc, len, ins, v0, w0, p0, a, b) = true) (hF : ∀ ls st M, F ls st M → zx_To l E d k (pc + len) ls st M Q) (hJ : ∀ t ls st M, J t ls st M → zx_To l E d k t ls st M Q)
    (h : zx_one l E d k Q (pc, len, ins, v0, w0, p0, a, b) F J ls st M) : zx_To l E d k pc ls st M Q := by
  unfold zx_one at h
  dsimp only at h
  split at h
  · rename_i st1 hx
    exact zx_alu_ok hc hx trivial (hF _ _ _ h)
  · rename_i c st1 hx
    exact zx_alu_ok hc hx h.1 (hF _ _ _ h.2)
  · rename_i hx
    clear hx
    cases ins with
    | iload i =>
      dsimp only at h
      split at h
      · rename_i x hv; exact zx_iload_ok hc (Or.inl rfl) hv (hF _ _ _ h)
      · exact h.elim
    | iload_n i =>
      dsimp only at h
      split at h
      · rename_i x hv; exact zx_iload_ok hc (Or.inr ⟨i, rfl, rfl⟩) hv (hF _ _ _ h)
      · exact h.elim
    | lload i =>
      dsimp only at h
      split at h
      · rename_i x hv; exact zx_lload_ok hc (Or.inl rfl) hv (hF _ _ _ h)
      · exact h.elim
    | lload_n i =>
      dsimp only at h
      split at h
      · rename_i x hv; exact zx_lload_ok hc (Or.inr ⟨i, rfl, rfl⟩) hv (hF _ _ _ h)
      · exact h.elim
    | aload i =>
      dsimp only at h
      split at h
      · rename_i x hv; exact zx_aload_ok hc (Or.inl rfl) hv (hF _ _ _ h)
      · exact h.elim
    | aload_n i =>
      dsimp only at h
      split at h
      · rename_i x hv; exact zx_aload_ok hc (Or.inr ⟨i, rfl, rfl⟩) hv (hF _ _ _ h)
      · exact h.elim
    | istore i =>
      dsimp only at h
      split at h
      · exact zx_istore_ok hc (Or.inl rfl) (hF _ _ _ h)
      · exact h.elim
    | istore_n i =>
      dsimp only at h
      split at h
      · exact zx_istore_ok hc (Or.inr ⟨i, rfl, rfl⟩) (hF _ _ _ h)
      · exact h.elim
    | astore i =>
      dsimp only at h
      split at h
      · exact zx_astore_ok hc (Or.inl rfl) (hF _ _ _ h)
      · exact h.elim
    | astore_n i =>
      dsimp only at h
      split at h
      · exact zx_astore_ok hc (Or.inr ⟨i, rfl, rfl⟩) (hF _ _ _ h)
      · exact h.elim
    | lstore i =>
      dsimp only at h
      split at h
      · exact zx_lstore_ok hc (Or.inl rfl) (hF _ _ _ h)
      · exact h.elim
    | lstore_n i =>
      dsimp only at h
      split at h
      · exact zx_lstore_ok hc (Or.inr ⟨i, rfl, rfl⟩) (hF _ _ _ h)
      · exact h.elim
    | iinc i n =>
      dsimp only at h
      split at h
      · rename_i x hv; exact zx_iinc_ok hc hv (hF _ _ _ h)
      · exact h.elim
    | if_icmp cn off =>
      dsimp only at h
      split at h
      · exact zx_icmp_ok hc (fun q => hJ _ _ _ _ (h.1 q)) (fun q => hF _ _ _ (h.2 q))
      · exact h.elim
    | ifCond cn off =>
      dsimp only at h
      split at h
      · exact zx_if_ok hc (fun q => hJ _ _ _ _ (h.1 q)) (fun q => hF _ _ _ (h.2 q))
      · exact h.elim
    | goto off => exact zx_goto_ok hc (hJ _ _ _ _ h)
    | tableswitch df lo hi os =>
      dsimp only at h
      split at h
      · refine zx_switch_ok hc h.1 (fun q => hJ _ _ _ _ (h.2.1 q)) ?_
        have h2 := h.2.2
        generalize os.toList = ol at h2 ⊢
        clear h hc
        induction ol generalizing lo with
        | nil => trivial
        | cons o ol ih => exact ⟨fun q => hJ _ _ _ _ (h2.1 q), ih _ h2.2⟩
      · exact h.elim
    | getfield idx =>
      dsimp only at h
      split at h
      · obtain ⟨hi, h⟩ := h
        split at h
        · rename_i ht; exact zx_getfield_ok hc hi (by rw [ht]; rfl) (hF _ _ _ h)
        · rename_i ht; exact zx_getfield_ok hc hi (by rw [ht]; rfl) (hF _ _ _ h)
        · rename_i n0 n1
          obtain ⟨j, hj, h⟩ := h
          refine zx_getfield_ok (v := .ref j) hc hi ?_ (hF _ _ _ h)
          have h2 : zx_tc (zx_ty a b) = 2 := by
            revert n0 n1
            cases zx_ty a b <;> simp [zx_tc]
          rw [h2]
          simp only [zx_cv, hj, va_rf]
      · exact h.elim
    | putfield idx =>
      dsimp only at h
      split at h
      · obtain ⟨hi, h⟩ := h
        split at h
        · rename_i hn
          refine zx_puti_ok hc hi ?_ (by rw [hn]; trivial) (hF _ _ _ h)
          revert hn
          cases zx_ty a b <;> simp [zx_nf, zx_tc]
        · rename_i c hn
          refine zx_puti_ok hc hi ?_ (by rw [hn]; exact h.1) (hF _ _ _ h.2)
          have h1 := h.1
          revert hn
          cases zx_ty a b <;> simp [zx_nf, zx_tc] <;> exact h1
      · obtain ⟨hi, h⟩ := h
        split at h
        · rename_i ht; exact zx_putl_ok hc hi ht (hF _ _ _ h)
        · exact h.elim
      · obtain ⟨hi, h⟩ := h
        split at h
        · rename_i ht; exact zx_putr_ok hc hi ht (hF _ _ _ h)
        · exact h.elim
      · exact h.elim
    | getstatic idx => exact zx_getstatic_ok hc (hF _ _ _ h)
    | iaload =>
      dsimp only at h
      split at h
      · exact zx_iaload_ok hc h.1 h.2.1 (hF _ _ _ h.2.2)
      · exact h.elim
    | laload =>
      dsimp only at h
      split at h
      · exact zx_laload_ok hc h.1 h.2.1 (hF _ _ _ h.2.2)
      · exact h.elim
    | baload =>
      dsimp only at h
      split at h
      · exact zx_baload_ok hc h.1 h.2.1 h.2.2.1 (hF _ _ _ h.2.2.2)
      · exact h.elim
    | aaload =>
      dsimp only at h
      split at h
      · obtain ⟨⟨g1, g2, g3, g4⟩, hj, x, hx, h⟩ := h
        exact zx_aaload_ok hc (kd := _) ⟨g1, g2, rfl⟩ g3 g4 hj hx (hF _ _ _ h)
      · exact h.elim
    | iastore =>
      dsimp only at h
      split at h
      · exact zx_iastore_ok hc h.1 h.2.1 (hF _ _ _ h.2.2)
      · exact h.elim
    | lastore =>
      dsimp only at h
      split at h
      · exact zx_lastore_ok hc h.1 h.2.1 (hF _ _ _ h.2.2)
      · exact h.elim
    | bastore =>
      dsimp only at h
      split at h
      · exact zx_bastore_ok hc h.1 h.2.1 h.2.2.1 (hF _ _ _ h.2.2.2)
      · exact h.elim
    | aastore =>
      dsimp only at h
      split at h
      · exact zx_aastore_ok hc h.1 h.2.1 h.2.2.1 (hF _ _ _ h.2.2.2)
      · exact h.elim
    | arraylength =>
      dsimp only at h
      split at h
      · rename_i i st'
        refine zx_alen_ok hc (kd := zx_kd M i) (h.1.imp (fun q => ⟨⟨q.1, q.2.1, rfl⟩, q.2.2.1, q.2.2.2⟩) id) (hF _ _ _ h.2)
      · exact h.elim
    | newarray t =>
      dsimp only at h
      split at h
      · exact zx_newarray_ok hc h.1 h.2.1 (hF _ _ _ h.2.2)
      · exact h.elim
    | anewarray idx =>
      dsimp only at h
      split at h
      · exact zx_anewarray_ok hc h.1 h.2.1 (hF _ _ _ h.2.2)
      · exact h.elim
    | multianewarray idx nd =>
      dsimp only at h
      split at h
      · obtain ⟨rfl, h1, h2, h3, h4, h⟩ := h
        exact zx_mna_ok hc h1 h2 h3 h4 (hF _ _ _ h)
      · exact h.elim
    | new idx =>
      dsimp only at h
      split at h
      · exact h.elim
      · rename_i q
        exact zx_new_ok hc (fun e => by rw [e] at q; cases q) (hF _ _ _ h)
    | invokevirtual idx =>
      dsimp only at h
      split at h
      · exact h.elim
      · rename_i q
        have hn := Nat.eq_of_beq_eq_true q
        split at h
        · rename_i i rest hdr
          obtain ⟨hi, h⟩ := h
          obtain ⟨g1, g2, d', rfl, Qr, g3, g4⟩ := zx_call_ok h
          have := zx_virt_ok (as := (st.take (zx_np b)).reverse) (st := rest) hc hi (by rw [List.length_reverse]; exact hn) g1 g2 g3 (fun r1 M1 hq => hF _ _ _ (g4 r1 M1 hq))
          rw [← hdr, zx_take] at this
          exact this
        · exact h.elim
    | invokestatic idx =>
      dsimp only at h
      split at h
      · split at h
        · exact h.elim
        · rename_i q
          have hn := Nat.eq_of_beq_eq_true q
          obtain ⟨g1, g2, d', rfl, Qr, g3, g4⟩ := zx_call_ok h
          have := zx_stat_ok (as := (st.take (zx_np b)).reverse) (st := st.drop (zx_np b)) hc (Or.inl rfl) (by rw [List.length_reverse]; exact hn) g1 g2 g3 (fun r1 M1 hq => hF _ _ _ (g4 r1 M1 hq))
          rw [zx_take] at this
          exact this
      · split at h
        · exact h.elim
        · rename_i q
          have hn := Nat.eq_of_beq_eq_true q
          obtain ⟨g1, g2, d', rfl, Qr, g3, g4⟩ := zx_call_ok h
          have := zx_stat_ok (as := (st.take (zx_np b)).reverse) (st := st.drop (zx_np b)) hc (Or.inr rfl) (by rw [List.length_reverse]; exact hn) g1 g2 g3 (fun r1 M1 hq => hF _ _ _ (g4 r1 M1 hq))
          rw [zx_take] at this
          exact this
      · split at h
        · obtain ⟨g1, g2, h1, h2, h3, h4, h5, h6, h7, h⟩ := zx_leaf_ok h
          exact zx_copy_ok hc g1 g2 h1 h2 h3 h4 h5 h6 h7 (hF _ _ _ h)
        · exact h.elim
      · split at h
        · obtain ⟨g1, g2, h⟩ := zx_leaf_ok h
          exact zx_max_ok hc g1 g2 (hF _ _ _ h)
        · exact h.elim
      · split at h
        · obtain ⟨g1, g2, h⟩ := zx_leaf_ok h
          exact zx_min_ok hc g1 g2 (hF _ _ _ h)
        · exact h.elim
      · exact h.elim
    | invokespecial idx =>
      dsimp only at h
      split at h
      · split at h
        · exact h.elim
        · rename_i q
          have hn := Nat.eq_of_beq_eq_true q
          split at h
          · rename_i i rest hdr
            obtain ⟨g1, g2, d', rfl, Qr, g3, g4⟩ := zx_call_ok h
            have := zx_init_ok (as := (st.take (zx_np b)).reverse) (st := rest) hc (Or.inl rfl) (by rw [List.length_reverse]; exact hn) g1 g2 g3 (fun r1 M1 hq => hF _ _ _ (g4 r1 M1 hq))
            rw [← hdr, zx_take] at this
            exact this
          · exact h.elim
      · split at h
        · exact h.elim
        · rename_i q
          have hn := Nat.eq_of_beq_eq_true q
          split at h
          · rename_i i rest hdr
            obtain ⟨g1, g2, d', rfl, Qr, g3, g4⟩ := zx_call_ok h
            have := zx_init_ok (as := (st.take (zx_np b)).reverse) (st := rest) hc (Or.inr rfl) (by rw [List.length_reverse]; exact hn) g1 g2 g3 (fun r1 M1 hq => hF _ _ _ (g4 r1 M1 hq))
            rw [← hdr, zx_take] at this
            exact this
          · exact h.elim
      · split at h
        · obtain ⟨g1, g2, h⟩ := zx_leaf_ok h
          exact zx_objinit_ok hc g1 g2 (hF _ _ _ h)
        · exact h.elim
      · exact h.elim
    | ireturn =>
      dsimp only at h
      split at h
      · rename_i x
        split at h
        · rename_i hr; exact zx_ret_ok (r := some (.int x)) hc rfl rfl ⟨_, hr, rfl⟩ h
        · rename_i hr; exact zx_ret_ok (r := some (.int x)) hc rfl rfl ⟨_, hr, by rcases h.1 with e | e <;> rw [e] <;> decide⟩ h.2
        · exact h.elim
      · exact h.elim
    | lreturn =>
      dsimp only at h
      split at h
      · rename_i x
        split at h
        · rename_i hr; exact zx_ret_ok (r := some (.long x)) hc rfl rfl hr h
        · exact h.elim
      · exact h.elim
    | return_ =>
      dsimp only at h
      split at h
      · split at h
        · rename_i hr; exact zx_ret_ok (r := none) hc rfl rfl hr h
        · exact h.elim
      · exact h.elim
    | _ => exact h.elim
def zx_from (tab : List zx_En) (t : Nat) : List zx_En := match tab with
  | [] => []
  | e :: es => match Nat.beq e.1 t with
    | true => e :: es
    | false => zx_from es t
/-- a stretch of code: up to n instructions, or to one of the stops, or to the end -/
def zx_seg (l : Launch) (E : zx_E) (d k : Nat) (Q : Option Value → zx_M → Prop) (tab : List zx_En) (stops : List Nat) : Nat → Nat → List zx_En → List (Option Value) → List Value → zx_M → Prop
  | 0, pc, _, ls, st, M => zx_To l E d k pc ls st M Q
  | n + 1, pc, cs, ls, st, M => match cs with
    | [] => False
    | e :: cs => match Nat.beq e.1 pc with
      | false => False
      | true => zx_one l E d k Q e (fun ls st M => match stops.contains (pc + e.2.1) with
          | true => zx_To l E d k (pc + e.2.1) ls st M Q
          | false => zx_seg l E d k Q tab stops n (pc + e.2.1) cs ls st M)
        (fun t ls st M => match stops.contains t with
          | true => zx_To l E d k t ls st M Q
          | false => zx_seg l E d k Q tab stops n t (zx_from tab t) ls st M) ls st M
theorem zx_from_sub {tab : List zx_En} {t : Nat} : ∀ e ∈ zx_from tab t, e ∈ tab := by
  induction tab with
  | nil => intro e h; exact h
  | cons q es ih =>
    intro e h
    unfold zx_from at h
    split at h
    · exact h
    · exact List.mem_cons_of_mem _ (ih e h)
theorem zx_seg_ok {tab : List zx_En} {stops : List Nat} (ht : tab.all (zx_chk k) = true) : ∀ (n pc : Nat) (cs : List zx_En) (ls : List (Option Value)) (st : List Value) (M : zx_M), (∀ e ∈ cs, e ∈ tab) → zx_seg l E d k Q tab stops n pc cs ls st M → zx_To l E d k pc ls st M Q := by
  intro n
  induction n with
  | zero => intro pc cs ls st M _ h; exact h
  | succ n ih =>
    intro pc cs ls st M hs h
    unfold zx_seg at h
    split at h
    · exact h.elim
    · rename_i e cs
      split at h
      · exact h.elim
      · rename_i q
        have hpc := Nat.eq_of_beq_eq_true q
        obtain ⟨pc', len, ins, v, w, p, a, b⟩ := e
        have hpc : pc' = pc := hpc
        subst hpc
        refine zx_one_ok (List.all_eq_true.mp ht _ (hs _ List.mem_cons_self)) (fun ls st M g => ?_) (fun t ls st M g => ?_) h
        · split at g
          · exact g
          · exact ih _ _ _ _ _ (fun e he => hs e (List.mem_cons_of_mem _ he)) g
        · split at g
          · exact g
          · exact ih _ _ _ _ _ zx_from_sub g
/-- a stretch of a method's code from a place of its table on -/
theorem zx_go {tab : List zx_En} (ht : tab.all (zx_chk k) = true) (stops : List Nat) (n pc : Nat) (h : zx_seg l E d k Q tab stops n pc (zx_from tab pc) ls st M) : zx_To l E d k pc ls st M Q :=
  zx_seg_ok ht n pc _ ls st M zx_from_sub h
end ZG
