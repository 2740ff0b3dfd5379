section ZBO
variable {l : Launch} {E : zx_E} {M0 : zx_M}
/-- what must hold behind it -/
def zb_go (l : Launch) (E : zx_E) (d : Nat) (Q : Option Value → zx_M → Prop) (F : List (Option Value) → List Value → zx_M → Prop) (J : Nat → List (Option Value) → List Value → zx_M → Prop) (M0 : zx_M) (r : zb_N) : Prop := match r with
  | (0, ls, st, os, _, _) => F ls st (zb_run M0 os)
  | (1, ls, st, os, _, t) => J t ls st (zb_run M0 os)
  | (2, ls, st, os, as, b) => zx_call l E d b as (zb_run M0 os) ls st F
  | (3, _, _, os, _, _) => Q none (zb_run M0 os)
  | (_ + 4, ls, st, os, _, _) => 1 ≤ d ∧ F ls st (zb_run M0 os)
set_option maxHeartbeats 4000000 in
theorem zb_step_ok {d k : Nat} {Q : Option Value → zx_M → Prop} {F : List (Option Value) → List Value → zx_M → Prop} {J : Nat → List (Option Value) → List Value → zx_M → Prop} {e : zx_En} {ls : List (Option Value)} {st : List Value} {os : List zb_O} {r : zb_N} (h3 : zx_n M0 = 3) (hw : zb_wf os = true) (h : zb_step k e ls st os = some r) :
    zb_wf r.2.2.2.1 = true ∧ (zb_go l E d Q F J M0 r → zx_one l E d k Q e F J ls st (zb_run M0 os)) := by
  obtain ⟨pc, len, ins, v, w, p, a, b⟩ := e
  have hP := zb_ok h3 os hw
  have hn := hP.1
  unfold zb_step at h
  dsimp only at h
  unfold zx_one
  dsimp only
  split at h
  · rename_i st1 hx
    cases h
    exact ⟨hw, fun g => by rw [hx]; exact g⟩
  · cases h
  · rename_i hx
    rw [hx]
    clear hx
    dsimp only
    split at h
    · split at h
      · rename_i hx
        cases h
        exact ⟨hw, fun g => by dsimp only; rw [hx]; exact g⟩
      · cases h
    · split at h
      · rename_i hx
        cases h
        exact ⟨hw, fun g => by dsimp only; rw [hx]; exact g⟩
      · cases h
    · split at h
      · cases h
        exact ⟨hw, fun g => g⟩
      · cases h
    · split at h
      · rename_i hx
        cases h
        exact ⟨hw, fun g => by dsimp only; rw [hx]; exact g⟩
      · cases h
    · split at h
      · split at h
        · rename_i hx
          cases h
          exact ⟨hw, fun g => ⟨fun _ => g, fun q => absurd hx q⟩⟩
        · rename_i hx
          cases h
          exact ⟨hw, fun g => ⟨fun q => absurd q hx, fun _ => g⟩⟩
      · cases h
    · cases h
      exact ⟨hw, fun g => g⟩
    · split at h
      · split at h
        · rename_i hk
          split at h
          · rename_i j hj
            split at h
            · rename_i q
              cases h
              refine ⟨hw, fun g => ⟨by rw [← q.1]; exact zb_isk hP hk, ?_⟩⟩
              rw [q.2]
              exact ⟨j, hP.2.2.2.1 _ _ _ hj, g⟩
            · cases h
          · cases h
        · cases h
      · cases h
    · split at h
      · split at h
        · rename_i hk
          split at h
          · rename_i q
            cases h
            refine ⟨?_, fun g => ⟨by rw [← q.1]; exact zb_isk hP hk, ?_⟩⟩
            · have := (hP.2.2.1 _ _ _ hk).1
              simp only [zb_wf, hw, Bool.true_and, decide_eq_true_eq]
              exact this
            · rw [q.2]
              exact g
          · cases h
        · cases h
      · split at h
        · rename_i hk
          split at h
          · rename_i q
            cases h
            refine ⟨hw, fun g => ⟨by rw [← q.1]; exact zb_isk hP hk, ?_⟩⟩
            rw [q.2]
            exact g
          · cases h
        · cases h
      · cases h
    · split at h
      · split at h
        · rename_i hk
          split at h
          · rename_i q
            cases h
            refine ⟨?_, fun g => ⟨by rw [← q.1]; exact zb_isk hP hk, ?_, g⟩⟩
            · have := (hP.2.2.1 _ _ _ hk).1
              simp only [zb_wf, hw, Bool.true_and, decide_eq_true_eq]
              exact this
            · rw [(hP.2.2.1 _ _ _ hk).2.2.2]
              exact q.2
          · cases h
        · cases h
      · cases h
    · split at h
      · split at h
        · rename_i hk
          split at h
          · rename_i hk2
            split at h
            · rename_i q
              cases h
              refine ⟨hw, fun g => ⟨by rw [← q.1]; exact zb_isk hP hk, ?_, by rw [← q.2.1]; exact zb_isk hP hk2, g⟩⟩
              rw [(hP.2.2.1 _ _ _ hk).2.2.2]
              exact q.2.2
            · cases h
          · cases h
        · cases h
      · cases h
    · split at h
      · split at h
        · rename_i q
          cases h
          refine ⟨?_, fun g => ⟨q.1, q.2, ?_⟩⟩
          · simp only [zb_wf, hw, Bool.true_and, decide_true]
          · rw [hn]; exact g
        · cases h
      · cases h
    · split at h
      · split at h
        · rename_i q
          cases h
          refine ⟨?_, fun g => ⟨q.1, q.2, ?_⟩⟩
          · simp only [zb_wf, hw, Bool.true_and, decide_true]
          · rw [hn]; exact g
        · cases h
      · cases h
    · split at h
      · split at h
        · rename_i q
          cases h
          refine ⟨?_, fun g => ⟨q.1, q.2.1, q.2.2.1, q.2.2.2.1, q.2.2.2.2, ?_⟩⟩
          · simp only [zb_wf, hw, Bool.true_and, decide_true]
          · rw [hn]; exact g
        · cases h
      · cases h
    · split at h
      · cases h
      · rename_i q
        cases h
        refine ⟨?_, fun g => ?_⟩
        · simp only [zb_wf, hw, Bool.true_and, decide_true]
        · rw [q, hn]; exact g
    · split at h
      · split at h
        · cases h
        · rename_i q
          split at h
          · rename_i hd
            cases h
            refine ⟨hw, fun g => ?_⟩
            dsimp only
            rw [q]
            dsimp only
            rw [hd]
            exact g
          · cases h
      · split at h
        · cases h
        · rename_i q
          split at h
          · rename_i hd
            cases h
            refine ⟨hw, fun g => ?_⟩
            dsimp only
            rw [q]
            dsimp only
            rw [hd]
            exact g
          · cases h
      · split at h
        · split at h
          · cases h
          · rename_i q
            cases h
            refine ⟨hw, fun g => ?_⟩
            have g1 : 1 ≤ d := g.1
            show zx_leaf d _ _
            unfold zx_leaf
            rw [q, Nat.ble_eq_true_of_le g1]
            exact g.2
        · cases h
      · cases h
    · split at h
      · split at h
        · rename_i q
          cases h
          refine ⟨hw, fun g => ?_⟩
          rw [q]
          exact g
        · cases h
      · cases h
    · cases h
/-! ===== many instructions ===== -/
def zb_tb (k : Nat) : List zx_En := match k with
  | 0 => zt_0
  | 15 => zt_15
  | 19 => zt_19
  | 22 => zt_22
  | 36 => zt_36
  | 46 => zt_46
  | 59 => zt_59
  | 74 => zt_74
  | 80 => zt_80
  | 83 => zt_83
  | 108 => zt_108
  | 117 => zt_117
  | 263 => zt_263
  | _ => []
theorem zb_tb_ok (k : Nat) : (zb_tb k).all (zx_chk k) = true := by
  unfold zb_tb
  split
  · exact zk_0
  · exact zk_15
  · exact zk_19
  · exact zk_22
  · exact zk_36
  · exact zk_46
  · exact zk_59
  · exact zk_74
  · exact zk_80
  · exact zk_83
  · exact zk_108
  · exact zk_117
  · exact zk_263
  · rfl
def zb_ex : Nat → Nat → Nat → Nat → List zx_En → List (Option Value) → List Value → List zb_O → Option (List zb_O)
  | 0, _, _, _, _, _, _, _ => none
  | f + 1, d, k, pc, cs, ls, st, os => match cs with
    | [] => none
    | e :: cs => match Nat.beq e.1 pc with
      | false => none
      | true => match zb_step k e ls st os with
        | none => none
        | some (0, ls1, st1, os1, _, _) => zb_ex f d k (pc + e.2.1) cs ls1 st1 os1
        | some (1, ls1, st1, os1, _, t) => zb_ex f d k t (zx_from (zb_tb k) t) ls1 st1 os1
        | some (2, ls1, st1, os1, as, b) => match d with
          | 0 => none
          | d + 1 => match Nat.ble (zx_sw8 st1) 8 && Nat.ble (zx_en as).length (zx_mL b) with
            | false => none
            | true => match zx_rt b with
              | some _ => none
              | none => match zb_ex f d b 0 (zb_tb b) (zx_ent as (zx_mL b)) [] os1 with
                | none => none
                | some os2 => zb_ex f (d + 1) k (pc + e.2.1) cs ls1 st1 os2
        | some (3, _, _, os1, _, _) => some os1
        | some (_ + 4, ls1, st1, os1, _, _) => match d with
          | 0 => none
          | d + 1 => zb_ex f (d + 1) k (pc + e.2.1) cs ls1 st1 os1
set_option maxHeartbeats 4000000 in
theorem zb_ex_ok (h3 : zx_n M0 = 3) : ∀ (f d k pc : Nat) (cs : List zx_En) (ls : List (Option Value)) (st : List Value) (os os' : List zb_O), (∀ e ∈ cs, e ∈ zb_tb k) → zb_wf os = true → zb_ex f d k pc cs ls st os = some os' →
    zb_wf os' = true ∧ zx_To l E d k pc ls st (zb_run M0 os) (fun r M' => r = none ∧ M' = zb_run M0 os') := by
  intro f
  induction f with
  | zero => intro d k pc cs ls st os os' _ _ h; simp [zb_ex] at h
  | succ f ih =>
    intro d k pc cs ls st os os' hs hw h
    unfold zb_ex at h
    split at h
    · cases h
    · rename_i e cs
      split at h
      · cases h
      · rename_i hpc
        have hpc := Nat.eq_of_beq_eq_true hpc
        have hin := hs e List.mem_cons_self
        have hs2 : ∀ e ∈ cs, e ∈ zb_tb k := fun e he => hs e (List.mem_cons_of_mem _ he)
        have hck := List.all_eq_true.mp (zb_tb_ok k) _ hin
        have key : ∀ r, zb_step k e ls st os = some r → zb_go l E d (fun r M' => r = none ∧ M' = zb_run M0 os') (fun ls st M => zx_To l E d k (pc + e.2.1) ls st M (fun r M' => r = none ∧ M' = zb_run M0 os')) (fun t ls st M => zx_To l E d k t ls st M (fun r M' => r = none ∧ M' = zb_run M0 os')) M0 r → zx_To l E d k pc ls st (zb_run M0 os) (fun r M' => r = none ∧ M' = zb_run M0 os') := by
          intro r hr g
          have g2 := (zb_step_ok (d := d) h3 hw hr).2 g
          obtain ⟨pc', len, ins, v, w, p, a, b⟩ := e
          have hpc : pc' = pc := hpc
          subst hpc
          exact zx_one_ok hck (fun ls st M h => h) (fun t ls st M h => h) g2
        split at h
        · cases h
        · rename_i hr
          obtain ⟨w2, T2⟩ := ih _ _ _ _ _ _ _ _ hs2 (zb_step_ok (l := l) (E := E) (d := d) (Q := fun _ _ => True) (F := fun _ _ _ => True) (J := fun _ _ _ _ => True) h3 hw hr).1 h
          exact ⟨w2, key _ hr T2⟩
        · rename_i hr
          obtain ⟨w2, T2⟩ := ih _ _ _ _ _ _ _ _ (fun e he => zx_from_sub e he) (zb_step_ok (l := l) (E := E) (d := d) (Q := fun _ _ => True) (F := fun _ _ _ => True) (J := fun _ _ _ _ => True) h3 hw hr).1 h
          exact ⟨w2, key _ hr T2⟩
        · rename_i hr
          have w1 := (zb_step_ok (l := l) (E := E) (d := d) (Q := fun _ _ => True) (F := fun _ _ _ => True) (J := fun _ _ _ _ => True) h3 hw hr).1
          split at h
          · cases h
          · split at h
            · cases h
            · rename_i q
              split at h
              · cases h
              · rename_i hrt
                split at h
                · cases h
                · rename_i os2 hx
                  obtain ⟨w2, T2⟩ := ih _ _ _ _ _ _ _ _ (fun e he => he) w1 hx
                  obtain ⟨w3, T3⟩ := ih _ _ _ _ _ _ _ _ hs2 w2 h
                  refine ⟨w3, key _ hr ?_⟩
                  unfold zb_go
                  dsimp only
                  unfold zx_call
                  rw [q]
                  dsimp only
                  rw [hrt]
                  exact zx_To.mono T2 (fun r M' hh => ⟨hh.1, by rw [hh.2]; exact T3⟩)
        · rename_i hr
          cases h
          exact ⟨(zb_step_ok (l := l) (E := E) (d := d) (Q := fun _ _ => True) (F := fun _ _ _ => True) (J := fun _ _ _ _ => True) h3 hw hr).1, key _ hr ⟨rfl, rfl⟩⟩
        · rename_i hr
          split at h
          · cases h
          · obtain ⟨w2, T2⟩ := ih _ _ _ _ _ _ _ _ hs2 (zb_step_ok (l := l) (E := E) (d := 0) (Q := fun _ _ => True) (F := fun _ _ _ => True) (J := fun _ _ _ _ => True) h3 hw hr).1 h
            exact ⟨w2, key _ hr ⟨Nat.le_add_left _ _, T2⟩⟩
end ZBO
