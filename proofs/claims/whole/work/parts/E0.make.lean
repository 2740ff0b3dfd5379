/-! ===== the makers, run by a small machine of their own: what they do is a list of acts, the newest first ===== -/
/-- 0: a cell (its number, kind, length, slots); 1: a reference put; 2: an int put; 3: a row of rows (its number, kind, two lengths) -/
abbrev zb_O : Type := Nat × Nat × Nat × Nat × Nat × Int32
def zb_do (o : zb_O) (M : zx_M) : zx_M := match o with
  | (0, _, a, b, c, _) => zx_nw M a b c
  | (1, i, a, b, _, _) => zx_pr M i a (some b)
  | (2, i, a, _, _, v) => zx_pi M i a v
  | (_ + 3, _, a, b, c, _) => zx_mn M a b c
def zb_run (M : zx_M) : List zb_O → zx_M
  | [] => M
  | o :: os => zb_do o (zb_run M os)
def zb_n : List zb_O → Nat
  | [] => 3
  | (0, _, _, _, _, _) :: os => zb_n os + 1
  | (1, _, _, _, _, _) :: os => zb_n os
  | (2, _, _, _, _, _) :: os => zb_n os
  | (_ + 3, _, _, b, _, _) :: os => zb_n os + 1 + b
def zb_s : List zb_O → Nat
  | [] => 0
  | (0, _, _, _, c, _) :: os => zb_s os + c
  | (1, _, _, _, _, _) :: os => zb_s os
  | (2, _, _, _, _, _) :: os => zb_s os
  | (_ + 3, _, _, b, c, _) :: os => zb_s os + (b + b * c)
def zb_wf : List zb_O → Bool
  | [] => true
  | (0, i, _, _, _, _) :: os => zb_wf os && decide (i = zb_n os)
  | (1, _, _, _, _, _) :: os => zb_wf os
  | (2, i, _, _, _, _) :: os => zb_wf os && decide (3 ≤ i)
  | (_ + 3, i, _, _, _, _) :: os => zb_wf os && decide (i = zb_n os)
/-- a cell's kind and length -/
def zb_lk (i : Nat) : List zb_O → Option (Nat × Nat)
  | [] => none
  | (0, j, a, b, _, _) :: os => if i = j then some (a, b) else zb_lk i os
  | (1, _, _, _, _, _) :: os => zb_lk i os
  | (2, _, _, _, _, _) :: os => zb_lk i os
  | (_ + 3, j, a, b, c, _) :: os => if j < i then (if i ≤ j + b then some (a - 4, c) else none) else if i = j then some (a, b) else zb_lk i os
def zb_rf (i k : Nat) : List zb_O → Option Nat
  | [] => none
  | (0, j, _, _, _, _) :: os => if i = j then none else zb_rf i k os
  | (1, j, a, b, _, _) :: os => if i = j ∧ k = a then some b else zb_rf i k os
  | (2, _, _, _, _, _) :: os => zb_rf i k os
  | (_ + 3, j, _, b, _, _) :: os => if j < i then none else if i = j then (if k < b then some (j + 1 + k) else none) else zb_rf i k os
def zb_in (i k : Nat) : List zb_O → Option Int32
  | [] => none
  | (0, j, _, _, _, _) :: os => if i = j then some 0 else zb_in i k os
  | (1, _, _, _, _, _) :: os => zb_in i k os
  | (2, j, a, _, _, v) :: os => if i = j ∧ k = a then some v else zb_in i k os
  | (_ + 3, j, _, _, _, _) :: os => if j ≤ i then some 0 else zb_in i k os
def zb_P (M : zx_M) (os : List zb_O) : Prop :=
  zx_n (zb_run M os) = zb_n os ∧ 3 ≤ zb_n os ∧
  (∀ i kd ln, zb_lk i os = some (kd, ln) → 3 ≤ i ∧ i < zb_n os ∧ zx_kd (zb_run M os) i = kd ∧ zx_ln (zb_run M os) i = ln) ∧
  (∀ i k j, zb_rf i k os = some j → (zb_run M os).2.2.1 i k = some j) ∧
  (∀ i k v, zb_in i k os = some v → (zb_run M os).1 i k = v) ∧
  (∀ i, i < 3 → (zb_run M os).1 i = M.1 i ∧ zx_kd (zb_run M os) i = zx_kd M i ∧ zx_ln (zb_run M os) i = zx_ln M i) ∧
  zx_sl (zb_run M os) = zx_sl M + zb_s os
theorem zb_ok {M : zx_M} (h3 : zx_n M = 3) : ∀ os : List zb_O, zb_wf os = true → zb_P M os
  | [], _ => ⟨h3, Nat.le_refl _, fun i kd ln h => (by cases h), fun i k j h => (by cases h), fun i k v h => (by cases h), fun i _ => ⟨rfl, rfl, rfl⟩, rfl⟩
  | (0, i0, a, b, c, w) :: os, h => by
    simp only [zb_wf, Bool.and_eq_true, decide_eq_true_eq] at h
    obtain ⟨p1, p2, p3, p4, p5, p6, p7⟩ := zb_ok h3 os h.1
    have e0 := h.2
    refine ⟨?_, ?_, ?_, ?_, ?_, ?_, ?_⟩
    · show zx_n (zb_run M os) + 1 = zb_n os + 1; omega
    · show 3 ≤ zb_n os + 1; omega
    · intro i kd ln hq
      simp only [zb_lk] at hq
      show 3 ≤ i ∧ i < zb_n os + 1 ∧ zx_u1 (zb_run M os).2.2.2.1 (zx_n (zb_run M os)) a i = kd ∧ zx_u1 (zb_run M os).2.2.2.2.1 (zx_n (zb_run M os)) b i = ln
      unfold zx_u1
      split at hq
      · rename_i e
        cases hq
        rw [if_pos (by omega), if_pos (by omega)]
        exact ⟨by omega, by omega, rfl, rfl⟩
      · rename_i e
        obtain ⟨q1, q2, q3, q4⟩ := p3 _ _ _ hq
        rw [if_neg (by omega), if_neg (by omega)]
        exact ⟨q1, by omega, q3, q4⟩
    · intro i k j hq
      simp only [zb_rf] at hq
      show zx_ur (zb_run M os).2.2.1 (zx_n (zb_run M os)) (fun _ => none) i k = some j
      unfold zx_ur
      split at hq
      · cases hq
      · rename_i e
        rw [if_neg (by omega)]
        exact p4 _ _ _ hq
    · intro i k v hq
      simp only [zb_in] at hq
      show zx_ur (zb_run M os).1 (zx_n (zb_run M os)) (fun _ => 0) i k = v
      unfold zx_ur
      split at hq
      · cases hq
        rw [if_pos (by omega)]
      · rename_i e
        rw [if_neg (by omega)]
        exact p5 _ _ _ hq
    · intro i hi
      show zx_ur (zb_run M os).1 (zx_n (zb_run M os)) (fun _ => 0) i = M.1 i ∧ zx_u1 (zb_run M os).2.2.2.1 (zx_n (zb_run M os)) a i = _ ∧ zx_u1 (zb_run M os).2.2.2.2.1 (zx_n (zb_run M os)) b i = _
      unfold zx_ur zx_u1
      rw [if_neg (by omega), if_neg (by omega), if_neg (by omega)]
      exact p6 i hi
    · show zx_sl (zb_run M os) + c = zx_sl M + (zb_s os + c); omega
  | (1, i0, a, b, c, w) :: os, h => by
    simp only [zb_wf] at h
    obtain ⟨p1, p2, p3, p4, p5, p6, p7⟩ := zb_ok h3 os h
    refine ⟨p1, p2, p3, ?_, p5, p6, p7⟩
    intro i k j hq
    simp only [zb_rf] at hq
    show zx_u2 (zb_run M os).2.2.1 i0 a (some b) i k = some j
    unfold zx_u2
    split at hq
    · rename_i e
      rw [if_pos e]; exact hq
    · rename_i e
      rw [if_neg e]
      exact p4 _ _ _ hq
  | (2, i0, a, b, c, w) :: os, h => by
    simp only [zb_wf, Bool.and_eq_true, decide_eq_true_eq] at h
    obtain ⟨p1, p2, p3, p4, p5, p6, p7⟩ := zb_ok h3 os h.1
    refine ⟨p1, p2, p3, p4, ?_, ?_, p7⟩
    · intro i k v hq
      simp only [zb_in] at hq
      show zx_u2 (zb_run M os).1 i0 a w i k = v
      unfold zx_u2
      split at hq
      · rename_i e
        rw [if_pos e]; exact Option.some.inj hq
      · rename_i e
        rw [if_neg e]
        exact p5 _ _ _ hq
    · intro i hi
      have hne : i ≠ i0 := by have := h.2; omega
      refine ⟨?_, (p6 i hi).2⟩
      show (zx_u2 (zb_run M os).1 i0 a w) i = M.1 i
      rw [← (p6 i hi).1]
      funext k
      unfold zx_u2
      rw [if_neg (fun q => hne q.1)]
  | (t + 3, i0, a, b, c, w) :: os, h => by
    simp only [zb_wf, Bool.and_eq_true, decide_eq_true_eq] at h
    obtain ⟨p1, p2, p3, p4, p5, p6, p7⟩ := zb_ok h3 os h.1
    have e0 := h.2
    refine ⟨?_, ?_, ?_, ?_, ?_, ?_, ?_⟩
    · show zx_n (zb_run M os) + 1 + b = zb_n os + 1 + b; omega
    · show 3 ≤ zb_n os + 1 + b; omega
    · intro i kd ln hq
      simp only [zb_lk] at hq
      show 3 ≤ i ∧ i < zb_n os + 1 + b ∧ (if i = zx_n (zb_run M os) then a else if zx_n (zb_run M os) < i then a - 4 else (zb_run M os).2.2.2.1 i) = kd ∧ (if i = zx_n (zb_run M os) then b else if zx_n (zb_run M os) < i then c else (zb_run M os).2.2.2.2.1 i) = ln
      split at hq
      · rename_i e
        split at hq
        · rename_i e2
          cases hq
          rw [if_neg (by omega), if_pos (by omega), if_neg (by omega), if_pos (by omega)]
          exact ⟨by omega, by omega, rfl, rfl⟩
        · cases hq
      · rename_i e
        split at hq
        · rename_i e2
          cases hq
          rw [if_pos (by omega), if_pos (by omega)]
          exact ⟨by omega, by omega, rfl, rfl⟩
        · rename_i e2
          obtain ⟨q1, q2, q3, q4⟩ := p3 _ _ _ hq
          rw [if_neg (by omega), if_neg (by omega), if_neg (by omega), if_neg (by omega)]
          exact ⟨q1, by omega, q3, q4⟩
    · intro i k j hq
      simp only [zb_rf] at hq
      show (if i = zx_n (zb_run M os) then (fun j => if j < b then some (zx_n (zb_run M os) + 1 + j) else none) else if zx_n (zb_run M os) < i then fun _ => none else (zb_run M os).2.2.1 i) k = some j
      split at hq
      · cases hq
      · rename_i e
        split at hq
        · rename_i e2
          rw [if_pos (by omega)]
          split at hq
          · rename_i e3
            cases hq
            show (if k < b then some (zx_n (zb_run M os) + 1 + k) else none) = _
            rw [if_pos e3, p1, e0]
          · cases hq
        · rename_i e2
          rw [if_neg (by omega), if_neg (by omega)]
          exact p4 _ _ _ hq
    · intro i k v hq
      simp only [zb_in] at hq
      show (if zx_n (zb_run M os) ≤ i then fun _ => 0 else (zb_run M os).1 i) k = v
      split at hq
      · cases hq
        rw [if_pos (by omega)]
      · rename_i e
        rw [if_neg (by omega)]
        exact p5 _ _ _ hq
    · intro i hi
      show (if zx_n (zb_run M os) ≤ i then fun _ => 0 else (zb_run M os).1 i) = M.1 i ∧ (if i = zx_n (zb_run M os) then a else if zx_n (zb_run M os) < i then a - 4 else (zb_run M os).2.2.2.1 i) = _ ∧ (if i = zx_n (zb_run M os) then b else if zx_n (zb_run M os) < i then c else (zb_run M os).2.2.2.2.1 i) = _
      rw [if_neg (by omega), if_neg (by omega), if_neg (by omega), if_neg (by omega), if_neg (by omega)]
      exact p6 i hi
    · show zx_sl (zb_run M os) + (b + b * c) = zx_sl M + (zb_s os + (b + b * c)); omega
theorem zb_isk {M : zx_M} {os : List zb_O} (hP : zb_P M os) {i kd ln : Nat} (h : zb_lk i os = some (kd, ln)) : zx_is (zb_run M os) i kd := by
  obtain ⟨q1, q2, q3, -⟩ := hP.2.2.1 _ _ _ h
  exact ⟨q1, by rw [hP.1]; exact q2, q3⟩
/-! ===== one instruction ===== -/
/-- 0: on; 1: a jump; 2: a call; 3: the end -/
abbrev zb_N : Type := Nat × List (Option Value) × List Value × List zb_O × List Value × Nat
def zb_step (k : Nat) (e : zx_En) (ls : List (Option Value)) (st : List Value) (os : List zb_O) : Option zb_N := match e with
  | (_, _, ins, v, w, _, a, b) => match zx_alu ins v w st with
    | some (none, st1) => some (0, ls, st1, os, [], 0)
    | some (some _, _) => none
    | none => match ins with
      | .aload_n i => match ls[(i : Nat)]? with
        | some (some (.ref x)) => some (0, ls, .ref x :: st, os, [], 0)
        | _ => none
      | .iload_n i => match ls[(i : Nat)]? with
        | some (some (.int x)) => some (0, ls, .int x :: st, os, [], 0)
        | _ => none
      | .istore_n i => match st with
        | .int x :: st => some (0, zx_s1 ls (i : Nat) (.int x), st, os, [], 0)
        | _ => none
      | .iinc i _ => match ls[i]? with
        | some (some (.int x)) => some (0, zx_s1 ls i (.int (x + v)), st, os, [], 0)
        | _ => none
      | .if_icmp .gt _ => match st with
        | .int y :: .int x :: st => if y < x then some (1, ls, st, os, [], a) else some (0, ls, st, os, [], 0)
        | _ => none
      | .goto _ => some (1, ls, st, os, [], a)
      | .getfield _ => match st with
        | .ref i :: st => match zb_lk i os with
          | some (kd, _) => match zb_rf i b os with
            | some j => if kd = a ∧ zx_tc (zx_ty a b) = 2 then some (0, ls, .ref j :: st, os, [], 0) else none
            | none => none
          | none => none
        | _ => none
      | .putfield _ => match st with
        | .int x :: .ref i :: st => match zb_lk i os with
          | some (kd, _) => if kd = a ∧ zx_ty a b = .int then some (0, ls, st, (2, i, b, 0, 0, x) :: os, [], 0) else none
          | none => none
        | .ref j :: .ref i :: st => match zb_lk i os with
          | some (kd, _) => if kd = a ∧ zx_tc (zx_ty a b) = 2 then some (0, ls, st, (1, i, b, j, 0, 0) :: os, [], 0) else none
          | none => none
        | _ => none
      | .iastore => match st with
        | .int x :: .int j :: .ref i :: st => match zb_lk i os with
          | some (kd, n) => if kd = 20 ∧ ¬ (j < 0 ∨ n ≤ j.toNatClampNeg) then some (0, ls, st, (2, i, j.toNatClampNeg, 0, 0, x) :: os, [], 0) else none
          | none => none
        | _ => none
      | .aastore => match st with
        | .ref x :: .int j :: .ref i :: st => match zb_lk i os with
          | some (kd, n) => match zb_lk x os with
            | some (kx, _) => if kd = 26 ∧ kx = 7 ∧ ¬ (j < 0 ∨ n ≤ j.toNatClampNeg) then some (0, ls, st, (1, i, j.toNatClampNeg, x, 0, 0) :: os, [], 0) else none
            | none => none
          | none => none
        | _ => none
      | .newarray _ => match st with
        | .int n :: st => if ¬ n < 0 ∧ n.toNatClampNeg ≤ 65536 then some (0, ls, .ref (zb_n os) :: st, (0, zb_n os, a, n.toNatClampNeg, n.toNatClampNeg, 0) :: os, [], 0) else none
        | _ => none
      | .anewarray _ => match st with
        | .int n :: st => if ¬ n < 0 ∧ n.toNatClampNeg ≤ 65536 then some (0, ls, .ref (zb_n os) :: st, (0, zb_n os, 26, n.toNatClampNeg, n.toNatClampNeg, 0) :: os, [], 0) else none
        | _ => none
      | .multianewarray _ nd => match st with
        | .int n2 :: .int n1 :: st => if nd = 2 ∧ ¬ n1 < 0 ∧ ¬ n2 < 0 ∧ n1.toNatClampNeg ≤ 65536 ∧ n2.toNatClampNeg ≤ 65536 then some (0, ls, .ref (zb_n os) :: st, (3, zb_n os, a, n1.toNatClampNeg, n2.toNatClampNeg, 0) :: os, [], 0) else none
        | _ => none
      | .new _ => match Nat.beq a 99 with
        | true => none
        | false => some (0, ls, .ref (zb_n os) :: st, (0, zb_n os, a, 0, zx_N a, 0) :: os, [], 0)
      | .invokespecial _ => match a with
        | 1 => match Nat.beq (st.take (zx_np b)).length (zx_np b) with
          | false => none
          | true => match st.drop (zx_np b) with
            | .ref i :: rest => some (2, ls, rest, os, .ref i :: (st.take (zx_np b)).reverse, b)
            | _ => none
        | 3 => match Nat.beq (st.take (zx_np b)).length (zx_np b) with
          | false => none
          | true => match st.drop (zx_np b) with
            | .ref i :: rest => some (2, ls, rest, os, .ref i :: (st.take (zx_np b)).reverse, b)
            | _ => none
        | 5 => match st with
          | .ref _ :: st => match Nat.ble (zx_sw8 st) 8 with
            | false => none
            | true => some (4, ls, st, os, [], 0)
          | _ => none
        | _ => none
      | .return_ => match st with
        | [] => match zx_rt k with
          | none => some (3, [], [], os, [], 0)
          | _ => none
        | _ => none
      | _ => none
