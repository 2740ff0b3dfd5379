/-! ===== loads, stores, jumps ===== -/
section ZM
variable {l : Launch} {E : zx_E} {d k pc len p0 a b : Nat} {v0 : Int32} {w0 : Int64} {ls : List (Option Value)} {st : List Value} {M : zx_M} {Qo : Option Value → zx_M → Prop}
theorem zx_iload_ok {i : Nat} {x : Int32} {ins : Instr} (hc : zx_chk k (pc, len, ins, v0, w0, p0, a, b) = true) (hi : ins = .iload i ∨ ∃ n : Fin 4, ins = .iload_n n ∧ (n : Nat) = i) (hv : ls[i]? = some (some (.int x)))
    (hz : zx_To l E d k (pc + len) ls (.int x :: st) M Qo) : zx_To l E d k pc ls st M Qo := by
  obtain ⟨hd, hl⟩ := zx_chk_dec hc
  refine zx_Za (fun p e R s m args below meth c hF Q H locs cells slots la hL kk => ?_) hz
  obtain ⟨hx, hb, -⟩ := hF
  have hg := hL.2.2 i _ hv
  rcases hi with rfl | ⟨n, rfl, hn⟩ <;> rcases hl with hl | hl <;> first | (cases hl; done) | skip
  · rw [hl] at hd kk; exact lv_iload hx hb hd hg kk
  · rw [hl] at hd kk; exact lv_iload_n hx hb hd hn hg kk
theorem zx_lload_ok {i : Nat} {x : Int64} {ins : Instr} (hc : zx_chk k (pc, len, ins, v0, w0, p0, a, b) = true) (hi : ins = .lload i ∨ ∃ n : Fin 4, ins = .lload_n n ∧ (n : Nat) = i) (hv : ls[i]? = some (some (.long x)))
    (hz : zx_To l E d k (pc + len) ls (.long x :: st) M Qo) : zx_To l E d k pc ls st M Qo := by
  obtain ⟨hd, hl⟩ := zx_chk_dec hc
  refine zx_Za (fun p e R s m args below meth c hF Q H locs cells slots la hL kk => ?_) hz
  obtain ⟨hx, hb, -⟩ := hF
  have hg := hL.2.2 i _ hv
  rcases hi with rfl | ⟨n, rfl, hn⟩ <;> rcases hl with hl | hl <;> first | (cases hl; done) | skip
  · rw [hl] at hd kk; exact lv_lload hx hb hd hg kk
  · rw [hl] at hd kk; exact lv_lload_n hx hb hd hn hg kk
theorem zx_aload_ok {i : Nat} {x : Nat} {ins : Instr} (hc : zx_chk k (pc, len, ins, v0, w0, p0, a, b) = true) (hi : ins = .aload i ∨ ∃ n : Fin 4, ins = .aload_n n ∧ (n : Nat) = i) (hv : ls[i]? = some (some (.ref x)))
    (hz : zx_To l E d k (pc + len) ls (.ref x :: st) M Qo) : zx_To l E d k pc ls st M Qo := by
  obtain ⟨hd, hl⟩ := zx_chk_dec hc
  refine zx_Za (fun p e R s m args below meth c hF Q H locs cells slots la hL kk => ?_) hz
  obtain ⟨hx, hb, -⟩ := hF
  have hg := hL.2.2 i _ hv
  rcases hi with rfl | ⟨n, rfl, hn⟩ <;> rcases hl with hl | hl <;> first | (cases hl; done) | skip
  · rw [hl] at hd kk; exact lv_aload hx hb hd hg kk
  · rw [hl] at hd kk; exact lv_aload_n hx hb hd hn hg kk
theorem zx_istore_ok {i : Nat} {x : Int32} {ins : Instr} (hc : zx_chk k (pc, len, ins, v0, w0, p0, a, b) = true) (hi : ins = .istore i ∨ ∃ n : Fin 4, ins = .istore_n n ∧ (n : Nat) = i)
    (hz : zx_To l E d k (pc + len) (zx_s1 ls i (.int x)) st M Qo) : zx_To l E d k pc ls (.int x :: st) M Qo := by
  obtain ⟨hd, hl⟩ := zx_chk_dec hc
  have ho := zx_chk_opr hc
  refine zx_Zs rfl rfl (fun p e R s m args below meth c hF Q H locs cells slots la _ _ hR hL hB kk => ?_) hz
  obtain ⟨hx, hb, -⟩ := hF
  rcases hi with rfl | ⟨n, rfl, hn⟩ <;> rcases hl with hl | hl <;> first | (cases hl; done) | skip
  · rw [hl] at hd kk; exact lv_istore hx hb hd hL.has (of_decide_eq_true ho) rfl (fun la1 h1 => kk H locs la1 hR (zx_L.s1 (v := .int x) h1) hB)
  · rw [hl] at hd kk; exact lv_istore_n hx hb hd hn hL.has (by rw [← hn]; exact of_decide_eq_true ho) rfl (fun la1 h1 => kk H locs la1 hR (zx_L.s1 (v := .int _) h1) hB)
theorem zx_astore_ok {i : Nat} {x : Nat} {ins : Instr} (hc : zx_chk k (pc, len, ins, v0, w0, p0, a, b) = true) (hi : ins = .astore i ∨ ∃ n : Fin 4, ins = .astore_n n ∧ (n : Nat) = i)
    (hz : zx_To l E d k (pc + len) (zx_s1 ls i (.ref x)) st M Qo) : zx_To l E d k pc ls (.ref x :: st) M Qo := by
  obtain ⟨hd, hl⟩ := zx_chk_dec hc
  have ho := zx_chk_opr hc
  refine zx_Zs rfl rfl (fun p e R s m args below meth c hF Q H locs cells slots la _ _ hR hL hB kk => ?_) hz
  obtain ⟨hx, hb, -⟩ := hF
  rcases hi with rfl | ⟨n, rfl, hn⟩ <;> rcases hl with hl | hl <;> first | (cases hl; done) | skip
  · rw [hl] at hd kk; exact lv_astore hx hb hd hL.has (of_decide_eq_true ho) rfl (fun la1 h1 => kk H locs la1 hR (zx_L.s1 (v := .ref x) h1) hB)
  · rw [hl] at hd kk; exact lv_astore_n hx hb hd hn hL.has (by rw [← hn]; exact of_decide_eq_true ho) rfl (fun la1 h1 => kk H locs la1 hR (zx_L.s1 (v := .ref x) h1) hB)
theorem zx_lstore_ok {i : Nat} {x : Int64} {ins : Instr} (hc : zx_chk k (pc, len, ins, v0, w0, p0, a, b) = true) (hi : ins = .lstore i ∨ ∃ n : Fin 4, ins = .lstore_n n ∧ (n : Nat) = i)
    (hz : zx_To l E d k (pc + len) (zx_s2 ls i (.long x)) st M Qo) : zx_To l E d k pc ls (.long x :: st) M Qo := by
  obtain ⟨hd, hl⟩ := zx_chk_dec hc
  have ho := zx_chk_opr hc
  refine zx_Zs rfl rfl (fun p e R s m args below meth c hF Q H locs cells slots la _ _ hR hL hB kk => ?_) hz
  obtain ⟨hx, hb, -⟩ := hF
  rcases hi with rfl | ⟨n, rfl, hn⟩ <;> rcases hl with hl | hl <;> first | (cases hl; done) | skip
  · rw [hl] at hd kk; exact lv_lstore hx hb hd hL.has (of_decide_eq_true ho) rfl (fun la1 h1 => kk H locs la1 hR (zx_L.s2 (v := .long x) h1) hB)
  · rw [hl] at hd kk; exact lv_lstore_n hx hb hd hn hL.has (by rw [← hn]; exact of_decide_eq_true ho) rfl (fun la1 h1 => kk H locs la1 hR (zx_L.s2 (v := .long x) h1) hB)
theorem zx_iinc_ok {i : Nat} {n : Int} {x : Int32} (hc : zx_chk k (pc, len, .iinc i n, v0, w0, p0, a, b) = true) (hv : ls[i]? = some (some (.int x)))
    (hz : zx_To l E d k (pc + len) (zx_s1 ls i (.int (x + v0))) st M Qo) : zx_To l E d k pc ls st M Qo := by
  obtain ⟨hd, hl⟩ := zx_chk_dec hc
  have ho := zx_chk_opr hc
  simp only [zx_opr, Bool.and_eq_true, decide_eq_true_eq] at ho
  refine zx_Zs rfl rfl (fun p e R s m args below meth c hF Q H locs cells slots la _ _ hR hL hB kk => ?_) hz
  obtain ⟨hx, hb, -⟩ := hF
  rcases hl with hl | hl <;> first | (cases hl; done) | skip
  obtain ⟨j, hj⟩ := List.getElem?_of_mem (zx_lv_mem (E := E) hv)
  rw [hl] at hd kk
  exact lv_iinc (v := x + v0) hx hb hd hL.has hj (by rw [ho.1]) ho.2 rfl (fun la1 h1 => kk H locs la1 hR (zx_L.s1 (v := .int _) h1) hB)
def zx_cp (c : ClassFile.Cond) (x y : Int32) : Prop := match c with
  | .eq => x = y
  | .ne => ¬ x = y
  | .lt => x < y
  | .ge => y ≤ x
  | .gt => y < x
  | .le => x ≤ y
def zx_co (c : ClassFile.Cond) (x y : Int32) : Prop := match c with
  | .eq => ¬ x = y
  | .ne => x = y
  | .lt => ¬ x < y
  | .ge => ¬ y ≤ x
  | .gt => ¬ y < x
  | .le => ¬ x ≤ y
theorem zx_cpn (c : ClassFile.Cond) (x y : Int32) : (zx_cp c x y ∧ ¬ zx_co c x y) ∨ (zx_co c x y ∧ ¬ zx_cp c x y) := by
  cases c <;> simp only [zx_cp, zx_co] <;> first | (rcases Classical.em (x = y) with h | h <;> simp [h]; done) | (rcases Classical.em (x < y) with h | h <;> simp [h]; done) | (rcases Classical.em (y ≤ x) with h | h <;> simp [h]; done) | (rcases Classical.em (y < x) with h | h <;> simp [h]; done) | (rcases Classical.em (x ≤ y) with h | h <;> simp [h]; done)
theorem zx_icmp_ok {cn : ClassFile.Cond} {off : Int} {x y : Int32} (hc : zx_chk k (pc, len, .if_icmp cn off, v0, w0, p0, a, b) = true)
    (h1 : zx_cp cn x y → zx_To l E d k a ls st M Qo) (h2 : zx_co cn x y → zx_To l E d k (pc + len) ls st M Qo) : zx_To l E d k pc ls (.int y :: .int x :: st) M Qo := by
  obtain ⟨hd, hl⟩ := zx_chk_dec hc
  have ho := zx_chk_opr hc
  simp only [zx_opr, decide_eq_true_eq] at ho
  rcases hl with hl | hl <;> first | (cases hl; done) | skip
  rw [hl] at hd h2
  have key : ∀ (pc1 : Nat), (zx_cp cn x y → pc1 = a) → (zx_co cn x y → pc1 = pc + 3) → zx_To l E d k pc1 ls st M Qo → zx_To l E d k pc ls (.int y :: .int x :: st) M Qo := by
    intro pc1 e1 e2 hz
    refine zx_Za (fun p e R s m args below meth c hF Q H locs cells slots la hL kk => ?_) hz
    obtain ⟨hx, hb, -⟩ := hF
    cases cn
    · exact lv_icmp_eq hx hb hd ho (fun q => e1 q ▸ kk) (fun q => e2 q ▸ kk)
    · exact lv_icmp_ne hx hb hd ho (fun q => e1 q ▸ kk) (fun q => e2 q ▸ kk)
    · exact lv_icmp_lt hx hb hd ho (fun q => e1 q ▸ kk) (fun q => e2 q ▸ kk)
    · exact lv_icmp_ge hx hb hd ho (fun q => e1 q ▸ kk) (fun q => e2 q ▸ kk)
    · exact lv_icmp_gt hx hb hd ho (fun q => e1 q ▸ kk) (fun q => e2 q ▸ kk)
    · exact lv_icmp_le hx hb hd ho (fun q => e1 q ▸ kk) (fun q => e2 q ▸ kk)
  rcases zx_cpn cn x y with ⟨q, q'⟩ | ⟨q, q'⟩
  · exact key a (fun _ => rfl) (fun z => absurd z q') (h1 q)
  · exact key (pc + 3) (fun z => absurd z q') (fun _ => rfl) (h2 q)
theorem zx_if_ok {cn : ClassFile.Cond} {off : Int} {x : Int32} (hc : zx_chk k (pc, len, .ifCond cn off, v0, w0, p0, a, b) = true)
    (h1 : zx_cp cn x 0 → zx_To l E d k a ls st M Qo) (h2 : zx_co cn x 0 → zx_To l E d k (pc + len) ls st M Qo) : zx_To l E d k pc ls (.int x :: st) M Qo := by
  obtain ⟨hd, hl⟩ := zx_chk_dec hc
  have ho := zx_chk_opr hc
  simp only [zx_opr, decide_eq_true_eq] at ho
  rcases hl with hl | hl <;> first | (cases hl; done) | skip
  rw [hl] at hd h2
  have key : ∀ (pc1 : Nat), (zx_cp cn x 0 → pc1 = a) → (zx_co cn x 0 → pc1 = pc + 3) → zx_To l E d k pc1 ls st M Qo → zx_To l E d k pc ls (.int x :: st) M Qo := by
    intro pc1 e1 e2 hz
    refine zx_Za (fun p e R s m args below meth c hF Q H locs cells slots la hL kk => ?_) hz
    obtain ⟨hx, hb, -⟩ := hF
    cases cn
    · exact lv_if_eq hx hb hd ho (fun q => e1 q ▸ kk) (fun q => e2 q ▸ kk)
    · exact lv_if_ne hx hb hd ho (fun q => e1 q ▸ kk) (fun q => e2 q ▸ kk)
    · exact lv_if_lt hx hb hd ho (fun q => e1 q ▸ kk) (fun q => e2 q ▸ kk)
    · exact lv_if_ge hx hb hd ho (fun q => e1 q ▸ kk) (fun q => e2 q ▸ kk)
    · exact lv_if_gt hx hb hd ho (fun q => e1 q ▸ kk) (fun q => e2 q ▸ kk)
    · exact lv_if_le hx hb hd ho (fun q => e1 q ▸ kk) (fun q => e2 q ▸ kk)
  rcases zx_cpn cn x 0 with ⟨q, q'⟩ | ⟨q, q'⟩
  · exact key a (fun _ => rfl) (fun z => absurd z q') (h1 q)
  · exact key (pc + 3) (fun z => absurd z q') (fun _ => rfl) (h2 q)
theorem zx_goto_ok {off : Int} (hc : zx_chk k (pc, len, .goto off, v0, w0, p0, a, b) = true) (hz : zx_To l E d k a ls st M Qo) : zx_To l E d k pc ls st M Qo := by
  obtain ⟨hd, hl⟩ := zx_chk_dec hc
  have ho := zx_chk_opr hc
  simp only [zx_opr, decide_eq_true_eq] at ho
  rcases hl with hl | hl <;> first | (cases hl; done) | skip
  rw [hl] at hd
  refine zx_Za (fun p e R s m args below meth c hF Q H locs cells slots la hL kk => ?_) hz
  obtain ⟨hx, hb, -⟩ := hF
  exact lv_goto hx hb hd ho kk
/-- a switch: by the offsets, the first of them for lo -/
def zx_sw (pc : Nat) (x : Int32) (go : Nat → Prop) : Int → List Int → Prop
  | _, [] => True
  | lo, o :: os => (x.toInt = lo → go ((pc : Int) + o).toNat) ∧ zx_sw pc x go (lo + 1) os
theorem zx_sw_at {pc : Nat} {x : Int32} {go : Nat → Prop} : ∀ (os : List Int) (lo : Int) (j : Nat) (o : Int), zx_sw pc x go lo os → os[j]? = some o → x.toInt = lo + j → go ((pc : Int) + o).toNat
  | [], _, _, _, _, h, _ => by simp at h
  | q :: os, lo, 0, o, h, hj, e => by
    simp at hj
    subst hj
    exact h.1 (by simpa using e)
  | q :: os, lo, j + 1, o, h, hj, e => zx_sw_at os (lo + 1) j o h.2 (by simpa using hj) (by rw [e]; push_cast; omega)
theorem zx_switch_ok {df lo hi : Int} {os : Array Int} {x : Int32} (hc : zx_chk k (pc, len, .tableswitch df lo hi os, v0, w0, p0, a, b) = true) (hn : hi + 1 = lo + os.size)
    (h1 : (x.toInt < lo ∨ hi < x.toInt) → zx_To l E d k ((pc : Int) + df).toNat ls st M Qo) (h2 : zx_sw pc x (fun t => zx_To l E d k t ls st M Qo) lo os.toList) : zx_To l E d k pc ls (.int x :: st) M Qo := by
  obtain ⟨hd, -⟩ := zx_chk_dec hc
  have ho := zx_chk_opr hc
  simp only [zx_opr, Bool.and_eq_true, decide_eq_true_eq] at ho
  rcases Classical.em (x.toInt < lo ∨ hi < x.toInt) with g | g
  · refine zx_Za (fun p e R s m args below meth c hF Q H locs cells slots la hL kk => ?_) (h1 g)
    obtain ⟨hx, hb, -⟩ := hF
    exact lv_tableOut hx hb hd g (Int.toNat_of_nonneg ho.1).symm kk
  · have g1 : ¬ x.toInt < lo := fun q => g (Or.inl q)
    have g2 : ¬ hi < x.toInt := fun q => g (Or.inr q)
    have hlt : (x.toInt - lo).toNat < os.size := by omega
    have hget : os[(x.toInt - lo).toNat]? = some os[(x.toInt - lo).toNat] := Array.getElem?_eq_getElem hlt
    have hz := zx_sw_at os.toList lo (x.toInt - lo).toNat _ h2 (by rw [Array.getElem?_toList]; exact hget) (by omega)
    have hpos : 0 ≤ (pc : Int) + os[(x.toInt - lo).toNat] := by
      have h3 := ho.2
      rw [Array.all_eq_true] at h3
      exact of_decide_eq_true (h3 _ hlt)
    refine zx_Za (fun p e R s m args below meth c hF Q H locs cells slots la hL kk => ?_) hz
    obtain ⟨hx, hb, -⟩ := hF
    exact lv_tableIn hx hb hd g1 g2 hget (Int.toNat_of_nonneg hpos).symm kk
end ZM
