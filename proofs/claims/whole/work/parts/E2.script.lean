/-! ===== the law's script: whatever was called, it lies there as before ===== -/
def zl_S (N : Nat) (f : Nat → Int32) (M : zx_M) : Prop := N ≤ zx_ln M 0 ∧ Int32.ofNat (zx_ln M 0) = Int32.ofNat N ∧ ∀ j, j < N → M.1 0 j = f j
theorem zl_ofNat {a b : Nat} (hb : b < 2 ^ 31) (h : Int32.ofNat a = Int32.ofNat b) : b ≤ a := by
  have h1 := congrArg (fun x : Int32 => x.toBitVec.toNat) h
  have e1 : ∀ n : Nat, (Int32.ofNat n).toBitVec.toNat = n % 2 ^ 32 := fun n => BitVec.toNat_ofNat n 32
  rw [e1, e1, Nat.mod_eq_of_lt (by omega : b < 2 ^ 32)] at h1
  have := Nat.mod_le a (2 ^ 32)
  omega
theorem zl_S_next {E : zx_E} {M M1 : zx_M} {s : State} {H H1 : Heap} {N : Nat} {f : Nat → Int32} (hN : N < 2 ^ 31) (hR : zx_R E M s H) (hR1 : zx_R E M1 s H1) (hc : ∀ c, H[zx_rho E 0]? = some c → H1[zx_rho E 0]? = some c) (h : zl_S N f M) : zl_S N f M1 := by
  obtain ⟨-, cell, a1, -, -, a4, a5, a6, -⟩ := hR.2.2.1.1 0 (by decide)
  obtain ⟨-, cell1, b1, -, -, b4, b5, b6, -⟩ := hR1.2.2.1.1 0 (by decide)
  have e : cell1 = cell := by
    have := hc _ a1
    rw [b1] at this
    exact Option.some.inj this
  subst e
  have h1 : Int32.ofNat (zx_ln M1 0) = Int32.ofNat N := by rw [← b5, a5]; exact h.2.1
  have h2 : N ≤ zx_ln M1 0 := zl_ofNat hN h1
  refine ⟨h2, h1, fun j hj => ?_⟩
  have q1 := a6 j (by have := h.1; omega)
  have q2 := b6 j (by omega)
  have q3 : Value.int (M.1 0 j) = Value.int (M1.1 0 j) := Option.some.inj (q1.symm.trans q2)
  rw [← Value.int.inj q3]
  exact h.2.2 j hj
theorem zl_vin {N i : Nat} {f : Nat → Int32} {M : zx_M} (hN : N ≤ 2560) (hi : i + 5 ≤ N) (hS : zl_S N f M) (k : Nat) (x : Int32) (hx : x = nI k) (hk : k < 5) : vp_in (nI i + x) (zx_ln M 0) ∧ M.1 0 (nI i + x).toNatClampNeg = f (i + k) := by
  have e : nI i + x = Int32.ofNat (i + k) := by rw [hx]; exact (Int32.ofNat_add i k).symm
  have e2 : (Int32.ofNat (i + k)).toNatClampNeg = i + k := by
    have := Int32.toInt_ofNat_of_lt (n := i + k) (by omega)
    simp only [Int32.toNatClampNeg, this]
    rfl
  have e3 : ¬ Int32.ofNat (i + k) < 0 := by
    rw [Int32.lt_iff_toInt_lt, Int32.toInt_ofNat_of_lt (n := i + k) (by omega)]
    show ¬ ((i + k : Nat) : Int) < (0 : Int32).toInt
    have : (0 : Int32).toInt = 0 := by decide
    omega
  rw [e]
  refine ⟨?_, by rw [e2]; exact hS.2.2 _ (by omega)⟩
  rintro (q | q)
  · exact e3 q
  · rw [e2] at q
    have := hS.1
    omega
def zl_lg (f : Nat → Int32) (i : Nat) : Int64 := (f (i + 1)).toInt64 <<< ((32 : Int32).toInt64 &&& 63) ||| (f (i + 2)).toInt64 &&& (4294967295 : Int64)
section ZLV
variable {l : Launch} {E : zx_E} {d pc p0 a b : Nat} {v0 : Int32} {w0 : Int64} {ls : List (Option Value)} {st as : List Value} {M : zx_M} {Qo : Option Value → zx_M → Prop}
theorem zl_virt {idx i N : Nat} {f : Nat → Int32} {Qr : Int32 → zx_M → Prop} (hN : N < 2 ^ 31) (hc : zx_chk 272 (pc, 3, .invokevirtual idx, v0, w0, p0, a, b) = true) (hi : zx_is M i (zx_mc b)) (hn : as.length = zx_np b) (hst : zx_sw8 st ≤ 8) (hlen : (zx_en (.ref i :: as)).length ≤ zx_mL b)
    (hS : zl_S N f M) (hz : zx_Ci l E d b (.ref i :: as) M Qr) (hdef : ∀ v M1, Qr v M1 → Qo (some (.int 1)) M1)
    (hq : ∀ v M1, Qr v M1 → zl_S N f M1 → zx_To l E (d + 1) 272 (pc + 3) ls (.int v :: st) M1 Qo) : zx_To l E (d + 1) 272 pc ls (as.reverse ++ .ref i :: st) M Qo := by
  obtain ⟨r1, M1, ⟨v, rfl, hq1⟩, hrok, hZ⟩ := hz
  by_cases hs : zl_S N f M1
  · exact zx_virt_ok (Qr := fun r M' => r = some (.int v) ∧ M' = M1) hc hi hn hst hlen ⟨some (.int v), M1, ⟨rfl, rfl⟩, hrok, hZ⟩ (fun r1 M' h => by
      obtain ⟨e1, e2⟩ := h
      subst e1 e2
      exact hq v M' hq1 hs)
  · obtain ⟨hd, hl⟩ := zx_chk_dec hc
    have ho := zx_chk_opr hc
    simp only [zx_opr, Bool.and_eq_true, decide_eq_true_eq, Bool.not_eq_true'] at ho
    obtain ⟨⟨⟨⟨-, hs0⟩, hmk⟩, hw⟩, hne⟩ := ho
    have hm := zx_mok_code hmk
    obtain ⟨hinst, hsel, hc13, hcn⟩ := hm.2.2.2.2.2.2 hs0
    have hM := zx_met hmk hlen hrok hZ
    refine ⟨some (.int 1), M1, hdef v M1 hq1, ⟨.boolean, by decide +kernel, by decide⟩, hZ.1, hZ.2.1, fun p e R s m args below meth c hF Q CF SF hC hSl hret H locs cells slots la hR hL hB e1 e2 => ?_⟩
    obtain ⟨hx, hb, hml, hown, hts, hK, hfr, hlo, -, hsz⟩ := hF
    have hr : va_Run p l e R s m args below meth c H locs cells slots (zx_n M1 - zx_n M) (zx_sl M1 - zx_sl M) (F0 m pc la ((as.reverse ++ .ref i :: st).map (zx_v E))) (st.map (zx_v E)) (zx_Qc E (some (.int v)) M1 (Value.ref (zx_rho E i) :: as.map (zx_v E)).toArray) (zx_A E) := by
      rw [zx_mapr]
      refine va_runV (As := as.map (zx_v E)) (rest := st.map (zx_v E)) (n := zx_np b) ⟨hx, hb, hml, hown, hts⟩ hM (cwV (zx_np b) hts (zx_gi (fun w h => ?_)) rfl rfl rfl ⟨rfl, hm.2.2.1⟩ ⟨hfr, by have := hm.2.2.2.1; show 8 + (zx_mL b + 11) + 64 * d ≤ _; omega⟩) ⟨zx_blind, ?_, zx_pre (as := .ref i :: as) hR hK⟩ rfl (by rw [List.length_map]; exact hn) hL.1 rfl (lv_room (by rw [zx_sw8_map]; exact hst)) hd ⟨by omega, by omega⟩
      · simp only [wsV, List.mem_append, List.mem_cons, List.not_mem_nil, or_false] at h
        rcases h with (h | h | h | h) | h
        · rw [h]; exact zx_w_mem hw
        · rw [h]; exact hinst
        · rw [h]; exact hsel.resolve_left hne
        · rw [h]; exact hm.2.1
        · rcases List.mem_cons.mp h with h | h
          · rw [h]; exact hm.1
          · exact h
      · obtain ⟨cell, g1, g2, g3, -⟩ := zx_ob hR hi hc13
        exact ⟨cell, g1, by rw [g3]; rfl, by rw [g2, ← hcn]; exact (hK.1.1 _ _ (zx_cl_at hc13)).2.1⟩
    intro T hT X
    obtain ⟨v', st₀, t, T', L, h0, X', hL', q1, q2, ⟨hv, hR1⟩, -⟩ := hr T hT X
    refine absurd (zl_S_next (H1 := T'.heap) hN hR (by rw [q1]; exact hR1.moved (by rw [← q2]; exact X'.warmed.alike.symm)) (fun c0 hc0 => ?_) hS) hs
    have hnA : ¬ zx_A E (zx_rho E 0) := (hR.2.2.1.1 0 (by decide)).2.choose_spec.2.2.2.2.2.2
    have hlt : zx_rho E 0 < s.heap.size := Nat.lt_of_lt_of_le (Nat.lt_of_not_le hnA) hsz
    have hcs : s.heap[zx_rho E 0]? = some s.heap[zx_rho E 0] := Array.getElem?_eq_getElem hlt
    have k1 := X.same.kept_off (fun i hm => hnA (hB _ hm)) hcs
    have k2 := X'.same.kept_off (fun i hm => by
      rcases List.mem_append.mp hm with hm | hm
      · exact hnA (hB _ hm)
      · exact hnA (hL' _ hm)) hcs
    have k1 : T.heap[zx_rho E 0]? = some s.heap[zx_rho E 0] := k1
    have k2 : T'.heap[zx_rho E 0]? = some s.heap[zx_rho E 0] := k2
    rw [← hT, k1] at hc0
    rw [k2, hc0]
end ZLV
