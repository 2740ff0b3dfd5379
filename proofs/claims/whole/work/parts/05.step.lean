/-! ===== one method's run: from a state to its return ===== -/
def zx_F (E : zx_E) (d k : Nat) (p : Program) (R : Room) (s : State) (m : MethodId) (args : Array Value) (meth : Method) (c : Code) : Prop :=
  p.tables.exec = Jvm.exec ∧ c.code = zx_b k ∧ c.maxLocals = zx_mL k ∧ s.vm.findClass (zx_own k) = some m.cls ∧ (∀ w ∈ zx_good, w.before args s = true) ∧ zx_K E s ∧ d ≤ R.frames ∧ 64 * d ≤ R.locals ∧ meth.name = (zx_y k).name ∧ E.1.1 ≤ s.heap.size
def zx_B (E : zx_E) (locs : List Loc) : Prop := ∀ q ∈ locs, zx_A E q.base
def zx_ri (r : Option Value) : Instr := match r with
  | some (.int _) => .ireturn
  | some (.long _) => .lreturn
  | _ => .return_
def zx_Z (l : Launch) (E : zx_E) (d k pc : Nat) (ls : List (Option Value)) (st : List Value) (M : zx_M) (r : Option Value) (M' : zx_M) : Prop :=
  zx_n M ≤ zx_n M' ∧ zx_sl M ≤ zx_sl M' ∧
  ∀ (p : Program) (e : Env) (R : Room) (s : State) (m : MethodId) (args : Array Value) (below : List Frame) (meth : Method) (c : Code), zx_F E d k p R s m args meth c →
  ∀ (Q : State → Prop) (CF SF : Nat), CF ≤ R.cells → SF ≤ R.slots →
  (∀ (pc' : Nat) (la' : Array Slot) (H' : Heap) (locs' : List Loc), decode (zx_b k) pc' = .ok (zx_ri r, 1) → zx_R E M' s H' → zx_B E locs' → W p l e R s m args below meth c H' locs' CF SF Q (F0 m pc' la' (r.map (zx_v E)).toList)) →
  ∀ (H : Heap) (locs : List Loc) (cells slots : Nat) (la : Array Slot), zx_R E M s H → zx_L E (zx_mL k) ls la → zx_B E locs → cells + (zx_n M' - zx_n M) = CF → slots + (zx_sl M' - zx_sl M) = SF →
  W p l e R s m args below meth c H locs cells slots Q (F0 m pc la (st.map (zx_v E)))
/-- what may be returned -/
def zx_rok (k : Nat) (r : Option Value) : Prop := match r with
  | none => zx_rt k = none
  | some (.int v) => ∃ ty, zx_rt k = some ty ∧ narrow ty (.int v) = .int v
  | some (.long _) => zx_rt k = some .long
  | _ => False
/-- from this state the method returns, with an answer and a memory of this sort -/
def zx_To (l : Launch) (E : zx_E) (d k pc : Nat) (ls : List (Option Value)) (st : List Value) (M : zx_M) (Q : Option Value → zx_M → Prop) : Prop := ∃ r M', Q r M' ∧ zx_rok k r ∧ zx_Z l E d k pc ls st M r M'
section ZS
variable {l : Launch} {E : zx_E} {d k pc pc1 : Nat} {ls ls1 : List (Option Value)} {st st1 : List Value} {M M1 : zx_M} {r : Option Value} {M' : zx_M} {Qo : Option Value → zx_M → Prop}
/-- a step that makes no cell -/
theorem zx_Zs (hn : zx_n M1 = zx_n M) (hs : zx_sl M1 = zx_sl M)
    (hW : ∀ (p : Program) (e : Env) (R : Room) (s : State) (m : MethodId) (args : Array Value) (below : List Frame) (meth : Method) (c : Code), zx_F E d k p R s m args meth c →
      ∀ (Q : State → Prop) (H : Heap) (locs : List Loc) (cells slots : Nat) (la : Array Slot), cells ≤ R.cells → slots ≤ R.slots → zx_R E M s H → zx_L E (zx_mL k) ls la → zx_B E locs →
      (∀ (H1 : Heap) (locs1 : List Loc) (la1 : Array Slot), zx_R E M1 s H1 → zx_L E (zx_mL k) ls1 la1 → zx_B E locs1 → W p l e R s m args below meth c H1 locs1 cells slots Q (F0 m pc1 la1 (st1.map (zx_v E)))) →
      W p l e R s m args below meth c H locs cells slots Q (F0 m pc la (st.map (zx_v E))))
    (hz : zx_To l E d k pc1 ls1 st1 M1 Qo) : zx_To l E d k pc ls st M Qo := by
  obtain ⟨r, M', hq, ho, h1, h2, h3⟩ := hz
  refine ⟨r, M', hq, ho, by omega, by omega, fun p e R s m args below meth c hF Q CF SF hC hS hret H locs cells slots la hR hL hB e1 e2 => ?_⟩
  refine hW p e R s m args below meth c hF Q H locs cells slots la (by omega) (by omega) hR hL hB (fun H1 locs1 la1 hR1 hL1 hB1 => ?_)
  exact h3 p e R s m args below meth c hF Q CF SF hC hS hret H1 locs1 cells slots la1 hR1 hL1 hB1 (by omega) (by omega)
/-- a step that changes the stack alone -/
theorem zx_Za (hW : ∀ (p : Program) (e : Env) (R : Room) (s : State) (m : MethodId) (args : Array Value) (below : List Frame) (meth : Method) (c : Code), zx_F E d k p R s m args meth c →
      ∀ (Q : State → Prop) (H : Heap) (locs : List Loc) (cells slots : Nat) (la : Array Slot), zx_L E (zx_mL k) ls la → 
      W p l e R s m args below meth c H locs cells slots Q (F0 m pc1 la (st1.map (zx_v E))) →
      W p l e R s m args below meth c H locs cells slots Q (F0 m pc la (st.map (zx_v E))))
    (hz : zx_To l E d k pc1 ls st1 M Qo) : zx_To l E d k pc ls st M Qo :=
  zx_Zs rfl rfl (fun p e R s m args below meth c hF Q H locs cells slots la _ _ hR hL hB kk => hW p e R s m args below meth c hF Q H locs cells slots la hL (kk H locs la hR hL hB)) hz
/-- a jump that goes one of two ways -/
theorem zx_Zb {pc2 : Nat} {c0 : Prop} [Decidable c0] (hW : ∀ (p : Program) (e : Env) (R : Room) (s : State) (m : MethodId) (args : Array Value) (below : List Frame) (meth : Method) (c : Code), zx_F E d k p R s m args meth c →
      ∀ (Q : State → Prop) (H : Heap) (locs : List Loc) (cells slots : Nat) (la : Array Slot),
      (c0 → W p l e R s m args below meth c H locs cells slots Q (F0 m pc1 la (st1.map (zx_v E)))) → (¬ c0 → W p l e R s m args below meth c H locs cells slots Q (F0 m pc2 la (st1.map (zx_v E)))) →
      W p l e R s m args below meth c H locs cells slots Q (F0 m pc la (st.map (zx_v E))))
    (h1 : c0 → zx_To l E d k pc1 ls st1 M Qo) (h2 : ¬ c0 → zx_To l E d k pc2 ls st1 M Qo) : zx_To l E d k pc ls st M Qo := by
  by_cases hc : c0
  · exact zx_Za (fun p e R s m args below meth c hF Q H locs cells slots la _ kk => hW p e R s m args below meth c hF Q H locs cells slots la (fun _ => kk) (fun n => absurd hc n)) (h1 hc)
  · exact zx_Za (fun p e R s m args below meth c hF Q H locs cells slots la _ kk => hW p e R s m args below meth c hF Q H locs cells slots la (fun n => absurd n hc) (fun _ => kk)) (h2 hc)
end ZS
/-! ===== the instructions that change the stack alone ===== -/
def zx_alu (ins : Instr) (v : Int32) (w : Int64) (st : List Value) : Option (Option Prop × List Value) := match ins with
  | .iconst _ => some (none, .int v :: st)
  | .bipush _ => some (none, .int v :: st)
  | .sipush _ => some (none, .int v :: st)
  | .ldc _ => some (none, .int v :: st)
  | .ldc_w _ => some (none, .int v :: st)
  | .lconst _ => some (none, .long w :: st)
  | .ldc2_w _ => some (none, .long w :: st)
  | .iadd => match st with
    | .int y :: .int x :: st => some (none, .int (x + y) :: st)
    | _ => none
  | .isub => match st with
    | .int y :: .int x :: st => some (none, .int (x - y) :: st)
    | _ => none
  | .imul => match st with
    | .int y :: .int x :: st => some (none, .int (x * y) :: st)
    | _ => none
  | .idiv => match st with
    | .int y :: .int x :: st => some (some (¬ y = 0), .int (x / y) :: st)
    | _ => none
  | .irem => match st with
    | .int y :: .int x :: st => some (some (¬ y = 0), .int (x - x / y * y) :: st)
    | _ => none
  | .iand => match st with
    | .int y :: .int x :: st => some (none, .int (x &&& y) :: st)
    | _ => none
  | .ior => match st with
    | .int y :: .int x :: st => some (none, .int (x ||| y) :: st)
    | _ => none
  | .ixor => match st with
    | .int y :: .int x :: st => some (none, .int (x ^^^ y) :: st)
    | _ => none
  | .ishl => match st with
    | .int y :: .int x :: st => some (none, .int (x <<< (y &&& 31)) :: st)
    | _ => none
  | .ishr => match st with
    | .int y :: .int x :: st => some (none, .int (x >>> (y &&& 31)) :: st)
    | _ => none
  | .iushr => match st with
    | .int y :: .int x :: st => some (none, .int (x.toUInt32 >>> (y.toUInt32 &&& Int32.toUInt32 31)).toInt32 :: st)
    | _ => none
  | .ladd => match st with
    | .long y :: .long x :: st => some (none, .long (x + y) :: st)
    | _ => none
  | .lsub => match st with
    | .long y :: .long x :: st => some (none, .long (x - y) :: st)
    | _ => none
  | .lmul => match st with
    | .long y :: .long x :: st => some (none, .long (x * y) :: st)
    | _ => none
  | .lrem => match st with
    | .long y :: .long x :: st => some (some (¬ y = 0), .long (x - x / y * y) :: st)
    | _ => none
  | .land => match st with
    | .long y :: .long x :: st => some (none, .long (x &&& y) :: st)
    | _ => none
  | .lor => match st with
    | .long y :: .long x :: st => some (none, .long (x ||| y) :: st)
    | _ => none
  | .lxor => match st with
    | .long y :: .long x :: st => some (none, .long (x ^^^ y) :: st)
    | _ => none
  | .lshl => match st with
    | .int y :: .long x :: st => some (none, .long (x <<< (y.toInt64 &&& 63)) :: st)
    | _ => none
  | .lshr => match st with
    | .int y :: .long x :: st => some (none, .long (x >>> (y.toInt64 &&& 63)) :: st)
    | _ => none
  | .lushr => match st with
    | .int y :: .long x :: st => some (none, .long (x.toUInt64 >>> (y.toInt64.toUInt64 &&& Int64.toUInt64 63)).toInt64 :: st)
    | _ => none
  | .lcmp => match st with
    | .long y :: .long x :: st => some (none, .int (lg_cmp x y) :: st)
    | _ => none
  | .i2l => match st with
    | .int x :: st => some (none, .long x.toInt64 :: st)
    | _ => none
  | .l2i => match st with
    | .long x :: st => some (none, .int x.toInt32 :: st)
    | _ => none
  | .i2b => match st with
    | .int x :: st => some (none, .int x.toInt8.toInt32 :: st)
    | _ => none
  | .i2s => match st with
    | .int x :: st => some (none, .int x.toInt16.toInt32 :: st)
    | _ => none
  | .dup => match st with
    | .int x :: st => some (none, .int x :: .int x :: st)
    | .ref x :: st => some (none, .ref x :: .ref x :: st)
    | _ => none
  | .dup2 => match st with
    | .int y :: .ref x :: st => some (none, .int y :: .ref x :: .int y :: .ref x :: st)
    | .int y :: .int x :: st => some (none, .int y :: .int x :: .int y :: .int x :: st)
    | _ => none
  | .pop => match st with
    | .int _ :: st => some (none, st)
    | .ref _ :: st => some (none, st)
    | _ => none
  | _ => none
def zx_oc (c : Option Prop) : Prop := match c with
  | none => True
  | some q => q
theorem zx_chk_opr {k pc len p a b : Nat} {ins : Instr} {v : Int32} {w : Int64} (h : zx_chk k (pc, len, ins, v, w, p, a, b) = true) : zx_opr k pc ins v w p a b = true := by
  simp only [zx_chk, Bool.and_eq_true] at h
  exact h.2
theorem zx_chk_dec {k pc len p a b : Nat} {ins : Instr} {v : Int32} {w : Int64} (h : zx_chk k (pc, len, ins, v, w, p, a, b) = true) : decode (zx_b k) pc = .ok (ins, len) ∧ (zx_len ins = 0 ∨ len = zx_len ins) := by
  simp only [zx_chk, Bool.and_eq_true, decide_eq_true_eq] at h
  obtain ⟨⟨h1, h2⟩, -⟩ := h
  refine ⟨?_, h2⟩
  split at h1
  · rename_i q hq
    rw [hq, of_decide_eq_true h1]
  · cases h1
set_option maxHeartbeats 2000000 in
theorem zx_alu_ok {l : Launch} {E : zx_E} {d k pc len p a b : Nat} {ins : Instr} {v : Int32} {w : Int64} {ls : List (Option Value)} {st st1 : List Value} {M : zx_M} {c0 : Option Prop} {Qo : Option Value → zx_M → Prop} (hc : zx_chk k (pc, len, ins, v, w, p, a, b) = true) (ha : zx_alu ins v w st = some (c0, st1)) (hp : zx_oc c0)
    (hz : zx_To l E d k (pc + len) ls st1 M Qo) : zx_To l E d k pc ls st M Qo := by
  obtain ⟨hd, hl⟩ := zx_chk_dec hc
  have hk := zx_chk_opr hc
  cases ins with
  | iadd =>
    simp only [zx_len] at hl
    simp only [zx_alu] at ha
    split at ha
    · cases ha; rcases hl with hl | hl <;> first | (cases hl; done) | subst hl
      refine zx_Za (fun p e R s m args below meth c hF Q H locs cells slots la hL kk => ?_) hz
      obtain ⟨hx, hb, -, hown, hts, -⟩ := hF
      exact lv_iadd hx hb hd kk
    · cases ha
  | isub =>
    simp only [zx_len] at hl
    simp only [zx_alu] at ha
    split at ha
    · cases ha; rcases hl with hl | hl <;> first | (cases hl; done) | subst hl
      refine zx_Za (fun p e R s m args below meth c hF Q H locs cells slots la hL kk => ?_) hz
      obtain ⟨hx, hb, -, hown, hts, -⟩ := hF
      exact lv_isub hx hb hd kk
    · cases ha
  | imul =>
    simp only [zx_len] at hl
    simp only [zx_alu] at ha
    split at ha
    · cases ha; rcases hl with hl | hl <;> first | (cases hl; done) | subst hl
      refine zx_Za (fun p e R s m args below meth c hF Q H locs cells slots la hL kk => ?_) hz
      obtain ⟨hx, hb, -, hown, hts, -⟩ := hF
      exact lv_imul hx hb hd kk
    · cases ha
  | iand =>
    simp only [zx_len] at hl
    simp only [zx_alu] at ha
    split at ha
    · cases ha; rcases hl with hl | hl <;> first | (cases hl; done) | subst hl
      refine zx_Za (fun p e R s m args below meth c hF Q H locs cells slots la hL kk => ?_) hz
      obtain ⟨hx, hb, -, hown, hts, -⟩ := hF
      exact lv_iand hx hb hd kk
    · cases ha
  | ior =>
    simp only [zx_len] at hl
    simp only [zx_alu] at ha
    split at ha
    · cases ha; rcases hl with hl | hl <;> first | (cases hl; done) | subst hl
      refine zx_Za (fun p e R s m args below meth c hF Q H locs cells slots la hL kk => ?_) hz
      obtain ⟨hx, hb, -, hown, hts, -⟩ := hF
      exact lv_ior hx hb hd kk
    · cases ha
  | ixor =>
    simp only [zx_len] at hl
    simp only [zx_alu] at ha
    split at ha
    · cases ha; rcases hl with hl | hl <;> first | (cases hl; done) | subst hl
      refine zx_Za (fun p e R s m args below meth c hF Q H locs cells slots la hL kk => ?_) hz
      obtain ⟨hx, hb, -, hown, hts, -⟩ := hF
      exact lv_ixor hx hb hd kk
    · cases ha
  | ishl =>
    simp only [zx_len] at hl
    simp only [zx_alu] at ha
    split at ha
    · cases ha; rcases hl with hl | hl <;> first | (cases hl; done) | subst hl
      refine zx_Za (fun p e R s m args below meth c hF Q H locs cells slots la hL kk => ?_) hz
      obtain ⟨hx, hb, -, hown, hts, -⟩ := hF
      exact lv_ishl hx hb hd kk
    · cases ha
  | ishr =>
    simp only [zx_len] at hl
    simp only [zx_alu] at ha
    split at ha
    · cases ha; rcases hl with hl | hl <;> first | (cases hl; done) | subst hl
      refine zx_Za (fun p e R s m args below meth c hF Q H locs cells slots la hL kk => ?_) hz
      obtain ⟨hx, hb, -, hown, hts, -⟩ := hF
      exact lv_ishr hx hb hd kk
    · cases ha
  | ladd =>
    simp only [zx_len] at hl
    simp only [zx_alu] at ha
    split at ha
    · cases ha; rcases hl with hl | hl <;> first | (cases hl; done) | subst hl
      refine zx_Za (fun p e R s m args below meth c hF Q H locs cells slots la hL kk => ?_) hz
      obtain ⟨hx, hb, -, hown, hts, -⟩ := hF
      exact lv_ladd hx hb hd kk
    · cases ha
  | lsub =>
    simp only [zx_len] at hl
    simp only [zx_alu] at ha
    split at ha
    · cases ha; rcases hl with hl | hl <;> first | (cases hl; done) | subst hl
      refine zx_Za (fun p e R s m args below meth c hF Q H locs cells slots la hL kk => ?_) hz
      obtain ⟨hx, hb, -, hown, hts, -⟩ := hF
      exact lv_lsub hx hb hd kk
    · cases ha
  | lmul =>
    simp only [zx_len] at hl
    simp only [zx_alu] at ha
    split at ha
    · cases ha; rcases hl with hl | hl <;> first | (cases hl; done) | subst hl
      refine zx_Za (fun p e R s m args below meth c hF Q H locs cells slots la hL kk => ?_) hz
      obtain ⟨hx, hb, -, hown, hts, -⟩ := hF
      exact lv_lmul hx hb hd kk
    · cases ha
  | land =>
    simp only [zx_len] at hl
    simp only [zx_alu] at ha
    split at ha
    · cases ha; rcases hl with hl | hl <;> first | (cases hl; done) | subst hl
      refine zx_Za (fun p e R s m args below meth c hF Q H locs cells slots la hL kk => ?_) hz
      obtain ⟨hx, hb, -, hown, hts, -⟩ := hF
      exact lv_land hx hb hd kk
    · cases ha
  | lor =>
    simp only [zx_len] at hl
    simp only [zx_alu] at ha
    split at ha
    · cases ha; rcases hl with hl | hl <;> first | (cases hl; done) | subst hl
      refine zx_Za (fun p e R s m args below meth c hF Q H locs cells slots la hL kk => ?_) hz
      obtain ⟨hx, hb, -, hown, hts, -⟩ := hF
      exact lv_lor hx hb hd kk
    · cases ha
  | lxor =>
    simp only [zx_len] at hl
    simp only [zx_alu] at ha
    split at ha
    · cases ha; rcases hl with hl | hl <;> first | (cases hl; done) | subst hl
      refine zx_Za (fun p e R s m args below meth c hF Q H locs cells slots la hL kk => ?_) hz
      obtain ⟨hx, hb, -, hown, hts, -⟩ := hF
      exact lv_lxor hx hb hd kk
    · cases ha
  | idiv =>
    simp only [zx_len] at hl
    simp only [zx_alu] at ha
    split at ha
    · cases ha; rcases hl with hl | hl <;> first | (cases hl; done) | subst hl
      refine zx_Za (fun p e R s m args below meth c hF Q H locs cells slots la hL kk => ?_) hz
      obtain ⟨hx, hb, -, hown, hts, -⟩ := hF
      exact lv_idiv hx hb hd hp kk
    · cases ha
  | irem =>
    simp only [zx_len] at hl
    simp only [zx_alu] at ha
    split at ha
    · cases ha; rcases hl with hl | hl <;> first | (cases hl; done) | subst hl
      refine zx_Za (fun p e R s m args below meth c hF Q H locs cells slots la hL kk => ?_) hz
      obtain ⟨hx, hb, -, hown, hts, -⟩ := hF
      exact lv_irem hx hb hd hp kk
    · cases ha
  | lrem =>
    simp only [zx_len] at hl
    simp only [zx_alu] at ha
    split at ha
    · cases ha; rcases hl with hl | hl <;> first | (cases hl; done) | subst hl
      refine zx_Za (fun p e R s m args below meth c hF Q H locs cells slots la hL kk => ?_) hz
      obtain ⟨hx, hb, -, hown, hts, -⟩ := hF
      exact lv_lrem hx hb hd hp kk
    · cases ha
  | iushr =>
    simp only [zx_len] at hl
    simp only [zx_alu] at ha
    split at ha
    · cases ha; rcases hl with hl | hl <;> first | (cases hl; done) | subst hl
      refine zx_Za (fun p e R s m args below meth c hF Q H locs cells slots la hL kk => ?_) hz
      obtain ⟨hx, hb, -, hown, hts, -⟩ := hF
      exact lv_iushr hx hb hd rfl kk
    · cases ha
  | lshl =>
    simp only [zx_len] at hl
    simp only [zx_alu] at ha
    split at ha
    · cases ha; rcases hl with hl | hl <;> first | (cases hl; done) | subst hl
      refine zx_Za (fun p e R s m args below meth c hF Q H locs cells slots la hL kk => ?_) hz
      obtain ⟨hx, hb, -, hown, hts, -⟩ := hF
      exact lv_lshl hx hb hd rfl kk
    · cases ha
  | lshr =>
    simp only [zx_len] at hl
    simp only [zx_alu] at ha
    split at ha
    · cases ha; rcases hl with hl | hl <;> first | (cases hl; done) | subst hl
      refine zx_Za (fun p e R s m args below meth c hF Q H locs cells slots la hL kk => ?_) hz
      obtain ⟨hx, hb, -, hown, hts, -⟩ := hF
      exact lv_lshr hx hb hd rfl kk
    · cases ha
  | lushr =>
    simp only [zx_len] at hl
    simp only [zx_alu] at ha
    split at ha
    · cases ha; rcases hl with hl | hl <;> first | (cases hl; done) | subst hl
      refine zx_Za (fun p e R s m args below meth c hF Q H locs cells slots la hL kk => ?_) hz
      obtain ⟨hx, hb, -, hown, hts, -⟩ := hF
      exact lv_lushr hx hb hd rfl kk
    · cases ha
  | i2l =>
    simp only [zx_len] at hl
    simp only [zx_alu] at ha
    split at ha
    · cases ha; rcases hl with hl | hl <;> first | (cases hl; done) | subst hl
      refine zx_Za (fun p e R s m args below meth c hF Q H locs cells slots la hL kk => ?_) hz
      obtain ⟨hx, hb, -, hown, hts, -⟩ := hF
      exact lv_i2l hx hb hd rfl kk
    · cases ha
  | l2i =>
    simp only [zx_len] at hl
    simp only [zx_alu] at ha
    split at ha
    · cases ha; rcases hl with hl | hl <;> first | (cases hl; done) | subst hl
      refine zx_Za (fun p e R s m args below meth c hF Q H locs cells slots la hL kk => ?_) hz
      obtain ⟨hx, hb, -, hown, hts, -⟩ := hF
      exact lv_l2i hx hb hd rfl kk
    · cases ha
  | i2b =>
    simp only [zx_len] at hl
    simp only [zx_alu] at ha
    split at ha
    · cases ha; rcases hl with hl | hl <;> first | (cases hl; done) | subst hl
      refine zx_Za (fun p e R s m args below meth c hF Q H locs cells slots la hL kk => ?_) hz
      obtain ⟨hx, hb, -, hown, hts, -⟩ := hF
      exact lv_i2b hx hb hd rfl kk
    · cases ha
  | i2s =>
    simp only [zx_len] at hl
    simp only [zx_alu] at ha
    split at ha
    · cases ha; rcases hl with hl | hl <;> first | (cases hl; done) | subst hl
      refine zx_Za (fun p e R s m args below meth c hF Q H locs cells slots la hL kk => ?_) hz
      obtain ⟨hx, hb, -, hown, hts, -⟩ := hF
      exact lv_i2s hx hb hd rfl kk
    · cases ha
  | lcmp =>
    simp only [zx_len] at hl
    simp only [zx_alu] at ha
    split at ha
    · cases ha; rcases hl with hl | hl <;> first | (cases hl; done) | subst hl
      refine zx_Za (fun p e R s m args below meth c hF Q H locs cells slots la hL kk => ?_) hz
      obtain ⟨hx, hb, -, hown, hts, -⟩ := hF
      exact W.lcmp hx hb hd kk
    · cases ha
  | dup =>
    simp only [zx_len] at hl
    simp only [zx_alu] at ha
    split at ha
    · cases ha; rcases hl with hl | hl <;> first | (cases hl; done) | subst hl
      refine zx_Za (fun p e R s m args below meth c hF Q H locs cells slots la hL kk => ?_) hz
      obtain ⟨hx, hb, -, hown, hts, -⟩ := hF
      exact lv_dup hx hb hd rfl kk
    · cases ha; rcases hl with hl | hl <;> first | (cases hl; done) | subst hl
      refine zx_Za (fun p e R s m args below meth c hF Q H locs cells slots la hL kk => ?_) hz
      obtain ⟨hx, hb, -, hown, hts, -⟩ := hF
      exact lv_dup hx hb hd rfl kk
    · cases ha
  | dup2 =>
    simp only [zx_len] at hl
    simp only [zx_alu] at ha
    split at ha
    · cases ha; rcases hl with hl | hl <;> first | (cases hl; done) | subst hl
      refine zx_Za (fun p e R s m args below meth c hF Q H locs cells slots la hL kk => ?_) hz
      obtain ⟨hx, hb, -, hown, hts, -⟩ := hF
      exact lv_dup2_11 hx hb hd rfl rfl kk
    · cases ha; rcases hl with hl | hl <;> first | (cases hl; done) | subst hl
      refine zx_Za (fun p e R s m args below meth c hF Q H locs cells slots la hL kk => ?_) hz
      obtain ⟨hx, hb, -, hown, hts, -⟩ := hF
      exact lv_dup2_11 hx hb hd rfl rfl kk
    · cases ha
  | pop =>
    simp only [zx_len] at hl
    simp only [zx_alu] at ha
    split at ha
    · cases ha; rcases hl with hl | hl <;> first | (cases hl; done) | subst hl
      refine zx_Za (fun p e R s m args below meth c hF Q H locs cells slots la hL kk => ?_) hz
      obtain ⟨hx, hb, -, hown, hts, -⟩ := hF
      exact lv_pop hx hb hd rfl kk
    · cases ha; rcases hl with hl | hl <;> first | (cases hl; done) | subst hl
      refine zx_Za (fun p e R s m args below meth c hF Q H locs cells slots la hL kk => ?_) hz
      obtain ⟨hx, hb, -, hown, hts, -⟩ := hF
      exact lv_pop hx hb hd rfl kk
    · cases ha
  | iconst n =>
    simp only [zx_len] at hl
    simp only [zx_alu] at ha
    cases ha; rcases hl with hl | hl <;> first | (cases hl; done) | subst hl
    refine zx_Za (fun p e R s m args below meth c hF Q H locs cells slots la hL kk => ?_) hz
    obtain ⟨hx, hb, -, hown, hts, -⟩ := hF
    exact lv_iconst hx hb hd (of_decide_eq_true hk) kk
  | bipush n =>
    simp only [zx_len] at hl
    simp only [zx_alu] at ha
    cases ha; rcases hl with hl | hl <;> first | (cases hl; done) | subst hl
    refine zx_Za (fun p e R s m args below meth c hF Q H locs cells slots la hL kk => ?_) hz
    obtain ⟨hx, hb, -, hown, hts, -⟩ := hF
    exact lv_bipush hx hb hd (of_decide_eq_true hk) kk
  | sipush n =>
    simp only [zx_len] at hl
    simp only [zx_alu] at ha
    cases ha; rcases hl with hl | hl <;> first | (cases hl; done) | subst hl
    refine zx_Za (fun p e R s m args below meth c hF Q H locs cells slots la hL kk => ?_) hz
    obtain ⟨hx, hb, -, hown, hts, -⟩ := hF
    exact lv_sipush hx hb hd (of_decide_eq_true hk) kk
  | lconst n =>
    simp only [zx_len] at hl
    simp only [zx_alu] at ha
    cases ha; rcases hl with hl | hl <;> first | (cases hl; done) | subst hl
    refine zx_Za (fun p e R s m args below meth c hF Q H locs cells slots la hL kk => ?_) hz
    obtain ⟨hx, hb, -, hown, hts, -⟩ := hF
    exact lv_lconst hx hb hd (of_decide_eq_true hk) kk
  | ldc n =>
    simp only [zx_len] at hl
    simp only [zx_alu] at ha
    cases ha; rcases hl with hl | hl <;> first | (cases hl; done) | subst hl
    refine zx_Za (fun p e R s m args below meth c hF Q H locs cells slots la hL kk => ?_) hz
    obtain ⟨hx, hb, -, hown, hts, -⟩ := hF
    exact lv_ldc hx hb hown (hts _ (zx_w_mem hk)) hd kk
  | ldc_w n =>
    simp only [zx_len] at hl
    simp only [zx_alu] at ha
    cases ha; rcases hl with hl | hl <;> first | (cases hl; done) | subst hl
    refine zx_Za (fun p e R s m args below meth c hF Q H locs cells slots la hL kk => ?_) hz
    obtain ⟨hx, hb, -, hown, hts, -⟩ := hF
    exact lv_ldcw hx hb hown (hts _ (zx_w_mem hk)) hd kk
  | ldc2_w n =>
    simp only [zx_len] at hl
    simp only [zx_alu] at ha
    cases ha; rcases hl with hl | hl <;> first | (cases hl; done) | subst hl
    refine zx_Za (fun p e R s m args below meth c hF Q H locs cells slots la hL kk => ?_) hz
    obtain ⟨hx, hb, -, hown, hts, -⟩ := hF
    exact lv_ldc2 hx hb hown (hts _ (zx_w_mem hk)) hd kk
  | _ => simp only [zx_alu] at ha; cases ha
