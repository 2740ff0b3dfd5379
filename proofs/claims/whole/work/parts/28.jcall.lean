/-! ===== call, hey: class = reference ===== -/
def zr_C : List (Nat × Nat × Nat) := [(8, 5, 10), (9, 0, 10), (10, 0, 10), (12, 0, 60), (13, 0, 60), (132, 3, 4), (132, 8, 9), (132, 10, 11), (134, 0, 10), (135, 0, 10), (136, 0, 10), (138, 0, 60), (139, 0, 60)]
theorem zc_C_cong {I I' : Nat → Nat → Int32} {P S b r : Nat} {H : List (Nat × Nat)} (h : zc_C I P S b r H) (hf : ∀ a k, zy_in zr_C a k → I' a k = I a k) : zc_C I' P S b r H := by
  obtain ⟨⟨hP, h7, h3⟩, his, hn, hz, ⟨hS, h8⟩, ⟨hb1, hb2, hb3, hb4⟩, ⟨hr, h6, hl, h5, h10⟩, hlog, hch⟩ := h
  have f8 : ∀ k, 5 ≤ k → k < 10 → I' 8 k = I 8 k := fun k h1 h2 => hf 8 k (zy_in_at 0 8 5 10 k rfl h1 h2)
  have f9 : ∀ k, k < 10 → I' 9 k = I 9 k := fun k h2 => hf 9 k (zy_in_at 1 9 0 10 k rfl (by omega) h2)
  have f10 : ∀ k, k < 10 → I' 10 k = I 10 k := fun k h2 => hf 10 k (zy_in_at 2 10 0 10 k rfl (by omega) h2)
  have f12 : ∀ k, k < 60 → I' 12 k = I 12 k := fun k h2 => hf 12 k (zy_in_at 3 12 0 60 k rfl (by omega) h2)
  have f13 : ∀ k, k < 60 → I' 13 k = I 13 k := fun k h2 => hf 13 k (zy_in_at 4 13 0 60 k rfl (by omega) h2)
  have f134 : ∀ k, k < 10 → I' 134 k = I 134 k := fun k h2 => hf 134 k (zy_in_at 8 134 0 10 k rfl (by omega) h2)
  have f135 : ∀ k, k < 10 → I' 135 k = I 135 k := fun k h2 => hf 135 k (zy_in_at 9 135 0 10 k rfl (by omega) h2)
  have f136 : ∀ k, k < 10 → I' 136 k = I 136 k := fun k h2 => hf 136 k (zy_in_at 10 136 0 10 k rfl (by omega) h2)
  have f138 : ∀ k, k < 60 → I' 138 k = I 138 k := fun k h2 => hf 138 k (zy_in_at 11 138 0 60 k rfl (by omega) h2)
  have f139 : ∀ k, k < 60 → I' 139 k = I 139 k := fun k h2 => hf 139 k (zy_in_at 12 139 0 60 k rfl (by omega) h2)
  refine ⟨⟨hP, ?_, ?_⟩, fun p hp => ?_, fun p hp => ?_, fun p hp1 hp2 => ?_, ⟨hS, ?_⟩, ⟨hb1, hb2, ?_, ?_⟩, ⟨hr, ?_, hl, ?_, ?_⟩, fun t q hq => ?_, zy_chain_cong H _ _ (fun p hp => (f9 p hp).symm) hch⟩
  · rw [f8 7 (by omega) (by omega)]; exact h7
  · rw [hf 132 3 (zy_in_at 5 132 3 4 3 rfl (by omega) (by omega))]; exact h3
  · rw [f9 p hp]; exact his p hp
  · rw [f134 p (by omega), f9 p (by omega), f135 p (by omega), f10 p (by omega), f136 p (by omega)]; exact hn p hp
  · rw [f9 p hp2, f10 p hp2]; exact hz p hp1 hp2
  · rw [f8 8 (by omega) (by omega)]; exact h8
  · rw [f8 9 (by omega) (by omega)]; exact hb3
  · rw [hf 132 8 (zy_in_at 6 132 8 9 8 rfl (by omega) (by omega))]; exact hb4
  · rw [f8 6 (by omega) (by omega)]; exact h6
  · rw [f8 5 (by omega) (by omega)]; exact h5
  · rw [hf 132 10 (zy_in_at 7 132 10 11 10 rfl (by omega) (by omega))]; exact h10
  · have htl : t < H.length := (List.getElem?_eq_some_iff.mp hq).1
    rw [f12 _ (by omega), f13 _ (by omega), f138 _ (by omega), f139 _ (by omega)]
    exact hlog t q hq
/-- what a call may write -/
def zw_C : List (Nat × Nat × Nat) := [(8, 5, 9), (9, 0, 10), (10, 0, 10), (12, 0, 60), (13, 0, 60), (132, 0, 1), (132, 10, 11), (134, 0, 10), (135, 0, 10), (136, 0, 10), (138, 0, 60), (139, 0, 60)]
theorem zy_mc_fr {I : Nat → Nat → Int32} {x : Int32} {c P m : Nat} (hP : P ≤ 10) (hm : m ≤ 60) : zy_fr zw_C I (zy_mc I x c P m) := by
  intro a k hk
  have g : ∀ j a' lo hi, zw_C[j]? = some (a', lo, hi) → ¬ (a = a' ∧ lo ≤ k ∧ k < hi) := fun j a' lo hi h q => hk (by rw [q.1]; exact zy_in_at j a' lo hi k h q.2.1 q.2.2)
  have g1 := g 6 132 10 11 rfl
  have g2 := g 7 134 0 10 rfl
  have g3 := g 8 135 0 10 rfl
  have g4 := g 9 136 0 10 rfl
  have g5 := g 10 138 0 60 rfl
  have g6 := g 11 139 0 60 rfl
  have hmm : (if m = 60 then 59 else m) < 60 := by split <;> omega
  unfold zy_mc zy_ns zy_ch
  rw [if_neg (by omega), if_neg (by omega), if_neg (by omega), if_neg (by omega), if_neg (by omega), if_neg (by omega), if_neg (by omega)]
theorem zy_co_fr {I : Nat → Nat → Int32} {x : Int32} {c r m : Nat} : zy_fr zw_C I (zy_co I x c r m) := by
  intro a k hk
  have g : ∀ j a' lo hi, zw_C[j]? = some (a', lo, hi) → ¬ (a = a' ∧ lo ≤ k ∧ k < hi) := fun j a' lo hi h q => hk (by rw [q.1]; exact zy_in_at j a' lo hi k h q.2.1 q.2.2)
  have g1 := g 0 8 5 9 rfl
  have g2 := g 1 9 0 10 rfl
  have g3 := g 2 10 0 10 rfl
  have g4 := g 3 12 0 60 rfl
  have g5 := g 4 13 0 60 rfl
  have hr : r % 60 < 60 := Nat.mod_lt _ (by omega)
  unfold zy_co zy_lg0
  rw [if_neg (by omega), if_neg (by omega), if_neg (by omega), if_neg (by omega), zy_u2_ne (by omega)]
  unfold zy_ch
  rw [if_neg (by omega), if_neg (by omega)]
theorem zy_mc_u {J : Nat → Nat → Int32} {x v : Int32} {c P m : Nat} : zy_mc (zx_u2 J 132 0 v) x c P m = zx_u2 (zy_mc J x c P m) 132 0 v := by
  funext a k
  by_cases q : a = 132 ∧ k = 0
  · obtain ⟨rfl, rfl⟩ := q
    rw [zy_u2_self, zy_mc_el (by omega), zy_u2_self]
  · rw [zy_u2_ne q]
    unfold zy_mc zy_ns zy_ch
    rw [zy_u2_ne (f := J) q, zy_u2_ne (f := J) (a := a) (b := k + 1) (by omega), zy_u2_ne (f := J) (a := 135) (by omega), zy_u2_ne (f := J) (a := 136) (by omega)]
section YJ
variable {l : Launch} {E : zx_E} {d : Nat} {I : Nat → Nat → Int32} {L : Nat → Nat → Int64} {Y : zx_Y} {Qo : Option Value → zx_M → Prop} {Q : Int32 → zx_M → Prop} {Qv : zx_M → Prop}
theorem zy_192 (hY : zx_lay Y) {x : Int32} (hq : Q (if zy_is x && decide (x ≠ 0) then 1 else 0) (I, L, Y)) : zx_Ci l E (d + 2) 192 [.int x] (I, L, Y) Q := by
  refine sg_192_0 hY _ ⟨fun h1 => ⟨_, rfl, ?_⟩, fun h1 => zy_172 hY ⟨hY, fun h2 => ⟨_, rfl, ?_⟩, fun h2 => ⟨_, rfl, ?_⟩⟩⟩
  · have e : (zy_is x && decide (x ≠ 0)) = false := by
      by_cases h0 : x = 0
      · simp [h0]
      · have : ¬ (0 : Int32) ≤ x := fun q => h0 (Int32.le_antisymm h1 q)
        simp [zy_is, this]
    rw [e] at hq; exact hq
  · have e : zy_is x = false := by
      cases h : zy_is x
      · rfl
      · rw [h] at h2; exact absurd h2 (by decide)
    rw [e, Bool.false_and] at hq; exact hq
  · have e : zy_is x = true := by
      cases h : zy_is x
      · rw [h] at h2; exact absurd rfl h2
      · rfl
    have h0 : x ≠ 0 := fun q => h1 (by rw [q]; decide)
    rw [e, decide_eq_true h0] at hq; exact hq
/-- a call of a name's code on both sides (the reference's thrown is set) -/
theorem zj_calls (hY : zx_lay Y) {P S b r cd : Nat} {H : List (Nat × Nat)} (hC : zc_C I P S b r H) (hcd : cd < 5764801) (h0 : cd ≠ 0) (hdig : zy_dig cd = true)
    {K : Int32 → zx_M → Prop} (hk : ∀ (v : Int32) (I1 : Nat → Nat → Int32), (zx_Ci l E (d + 2) 191 [.ref 132, .int (nI cd)] (zx_u2 I1 132 0 0, L, Y) (fun w M2 => zx_lay M2.2.2 ∧ w = v ∧ Q v M2)) → zy_fr zw_C I I1 → (∀ a k, 132 ≤ a → I1 a k = I a k) → K v (I1, L, Y))
    (hq : ∀ (v : Int32) (I' : Nat → Nat → Int32) (S' r' : Nat) (H' : List (Nat × Nat)), zc_C I' P S' b r' H' → zy_fr zw_C I I' → Q v (I', L, Y)) : zx_Ci l E (d + 2) 9 [.ref 8, .int (nI cd)] (I, L, Y) K := by
  have hC0 := hC
  have hwho := zc_who hC (x := nI cd) (fun q => h0 ((zy_eq0 (by omega)).mp q))
  obtain ⟨⟨hP, h7, h3⟩, his, hn, hz, ⟨hS, h8⟩, ⟨hb1, hb2, hb3, hb4⟩, ⟨hr, h6, hl, h5, h10⟩, hlog, hch⟩ := hC
  have ht : zy_in zw_C 132 0 := zy_in_at 5 132 0 1 0 rfl (by omega) (by omega)
  have keep : zc_C (zx_u2 I 132 0 0) P S b r H := zc_C_cong hC0 (zy_fr_on (W := [(132, 0, 1)]) (zy_fr_u2 (zy_fr_rf _ _) (zy_in_at 0 132 0 1 0 rfl (by omega) (by omega))) (by decide))
  generalize hc : zy_orN (fun p => decide (I 9 p = nI cd)) 10 = c at hwho
  refine zy_c9 hY hr hl h6 h5 hb2 hb3 hc.symm ?_
  by_cases g1 : b < zy_pop c
  · rw [if_pos g1]
    refine hk _ _ (zy_191 (I := zx_u2 I 132 0 0) hY hP h3 hl h10 hb2 hb4 hwho.symm ?_) (zy_fr_rf _ _) (fun _ _ _ => rfl)
    rw [if_pos g1]
    exact ⟨hY, rfl, hq _ _ S r H keep (zy_fr_u2 (zy_fr_rf _ _) ht)⟩
  · rw [if_neg g1]
    by_cases g2 : c = 0
    · rw [if_pos g2]
      refine hk _ _ (zy_191 (I := zx_u2 I 132 0 0) hY hP h3 hl h10 hb2 hb4 hwho.symm ?_) (zy_fr_rf _ _) (fun _ _ _ => rfl)
      rw [if_neg g1, if_pos g2]
      exact ⟨hY, rfl, hq _ _ S r H keep (zy_fr_u2 (zy_fr_rf _ _) ht)⟩
    · rw [if_neg g2]
      have hlt : P ≤ 10 := hP
      refine hk _ _ (zy_191 (I := zx_u2 (zy_co I (nI cd) c r H.length) 132 0 0) (P := P) (m := H.length) (b := b) (c := c) hY hP ?_ hl ?_ hb2 ?_ ?_ ?_) zy_co_fr (fun a k ha => zy_co_el (by omega))
      · rw [zy_u2_ne (by omega), zy_co_el (by omega)]; exact h3
      · rw [zy_u2_ne (by omega), zy_co_el (by omega)]; exact h10
      · rw [zy_u2_ne (by omega), zy_co_el (by omega)]; exact hb4
      · rw [← hwho]
        exact zy_orN_cong (fun p hp => by rw [zy_u2_na (by omega), zy_co_el (by omega)])
      · rw [if_neg g1, if_neg g2, zy_mc_u]
        have hnew := zc_call hC0 hcd h0 hdig hc.symm
        have hfr : zy_fr zw_C I (zy_mc (zy_co I (nI cd) c r H.length) (nI cd) c P H.length) := zy_fr_tr zy_co_fr (zy_mc_fr hP hl)
        refine ⟨hY, rfl, hq _ _ _ _ _ (zc_C_cong hnew (zy_fr_on (W := [(132, 0, 1)]) (zy_fr_u2 (zy_fr_rf _ _) (zy_in_at 0 132 0 1 0 rfl (by omega) (by omega))) (by decide))) (zy_fr_u2 hfr ht)⟩
theorem zj_call (hY : zx_lay Y) {P S b r : Nat} {H : List (Nat × Nat)} (hC : zc_C I P S b r H) {x : Int32}
    (hq : ∀ (v : Int32) (I' : Nat → Nat → Int32) (S' r' : Nat) (H' : List (Nat × Nat)), zc_C I' P S' b r' H' → zy_fr zw_C I I' → Q v (I', L, Y)) :
    zx_Ci l E (d + 3) 124 [.ref 3, .int x] (I, L, Y) (fun v M1 => zx_lay M1.2.2 ∧ zx_Ci l E (d + 3) 193 [.ref 132, .int x] M1 (fun w M2 => w = v ∧ Q v M2)) := by
  have ht : zy_in zw_C 132 0 := zy_in_at 5 132 0 1 0 rfl (by omega) (by omega)
  have keep : zc_C (zx_u2 I 132 0 0) P S b r H := zc_C_cong hC (zy_fr_on (W := [(132, 0, 1)]) (zy_fr_u2 (zy_fr_rf _ _) (zy_in_at 0 132 0 1 0 rfl (by omega) (by omega))) (by decide))
  have hno : zy_is x = false ∨ x = 0 → zx_Ci l E (d + 3) 193 [.ref 132, .int x] (I, L, Y) (fun w M2 => w = -1 ∧ Q (-1) M2) := fun h => by
    refine sg_193_0 hY _ (zy_192 hY ⟨hY, fun _ => ⟨_, rfl, rfl, hq _ _ S r H keep (zy_fr_u2 (zy_fr_rf _ _) ht)⟩, fun h2 => ?_⟩)
    have e : (zy_is x && decide (x ≠ 0)) = false := by
      rcases h with h | h
      · rw [h]; rfl
      · rw [h]; simp
    rw [e] at h2
    exact absurd rfl h2
  refine sg_124_0 hY _ ⟨fun h1 => ⟨_, rfl, hY, hno (Or.inr h1)⟩, fun h1 => zy_160 hY ⟨hY, fun h2 => ?_, fun h2 => ?_⟩⟩
  · have e : zy_is x = false := by
      cases h : zy_is x
      · rfl
      · rw [h] at h2; exact absurd h2 (by decide)
    exact ⟨_, rfl, hY, hno (Or.inl e)⟩
  · have e : zy_is x = true := by
      cases h : zy_is x
      · rw [h] at h2; exact absurd rfl h2
      · rfl
    obtain ⟨cd, rfl, hcd, hdig⟩ := zy_is_of e
    have h0 : cd ≠ 0 := fun q => h1 (by rw [q]; rfl)
    refine zj_calls hY hC hcd h0 hdig (fun v I1 hm hfr _ => ⟨hY, _, rfl, hY, ?_⟩) hq
    refine sg_193_0 hY _ (zy_192 hY ⟨hY, fun h3 => ?_, fun _ => ?_⟩)
    · rw [e, decide_eq_true h1] at h3; exact absurd h3 (by decide)
    · exact zx_Ci.mono hm (fun w M2 g => ⟨g.1, _, rfl, g.2⟩)
/-- hey -/
theorem zj_hey (hY : zx_lay Y) {P S b r : Nat} {H : List (Nat × Nat)} (hC : zc_C I P S b r H) {x : Int32}
    (hq : ∀ (v : Int32) (I' : Nat → Nat → Int32) (S' r' : Nat) (H' : List (Nat × Nat)), zc_C I' P S' b r' H' → zy_fr zw_C I I' → Q v (I', L, Y)) :
    zx_Ci l E (d + 3) 125 [.ref 3, .int x] (I, L, Y) (fun v M1 => zx_lay M1.2.2 ∧ zx_Ci l E (d + 3) 194 [.ref 132, .int x] M1 (fun w M2 => w = v ∧ Q v M2)) := by
  have ht : zy_in zw_C 132 0 := zy_in_at 5 132 0 1 0 rfl (by omega) (by omega)
  have keep : zc_C (zx_u2 I 132 0 0) P S b r H := zc_C_cong hC (zy_fr_on (W := [(132, 0, 1)]) (zy_fr_u2 (zy_fr_rf _ _) (zy_in_at 0 132 0 1 0 rfl (by omega) (by omega))) (by decide))
  have hC0 := hC
  obtain ⟨⟨hP, h7, h3⟩, his, hn, -⟩ := hC
  refine sg_125_0 hY _ (zy_1 hY hP h7 ⟨hY, fun h1 => ?_, fun h1 => ⟨_, rfl, hY, ?_⟩⟩)
  · have e : zy_one P x = true := by
      cases h : zy_one P x
      · rw [h] at h1; exact absurd rfl h1
      · rfl
    obtain ⟨p, hp, rfl⟩ := zy_one_at e (by omega)
    have hv := vp_in_nI (n := p) (N := 10) (by omega) (by omega)
    obtain ⟨cd, hcde, hcd, hdig⟩ := zy_is_of (his p (by omega))
    have hnm : ∀ I1 : Nat → Nat → Int32, zy_fr zw_C I I1 → I1 132 3 = nI P := fun I1 hf => by rw [zy_fr_at hf 132 3 (by decide)]; exact h3
    show vp_in (nI p) 10 ∧ ((¬ I 9 (nI p).toNatClampNeg = 0 → _) ∧ (I 9 (nI p).toNatClampNeg = 0 → _))
    rw [nI_clamp (by omega)]
    refine ⟨hv, fun h2 => ?_, fun h2 => ⟨_, rfl, hY, ?_⟩⟩
    · have h0 : cd ≠ 0 := fun q => h2 (by rw [hcde, q]; rfl)
      show zx_Ci l E (d + 2) 9 [.ref 8, .int (I 9 p)] (I, L, Y) _
      rw [hcde]
      refine zj_calls hY hC0 hcd h0 hdig (fun v I1 hm hfr hel => ⟨hY, _, rfl, hY, ?_⟩) hq
      have h3' : I1 132 3 = nI P := by rw [hel 132 3 (by omega)]; exact h3
      have hn' : I1 134 p = nI cd := by rw [hel 134 p (by omega), (hn p hp).1]; exact hcde
      refine sg_194_0 hY _ (zy_175 (I := zx_u2 I1 132 0 0) hY hP h3' ⟨hY, fun _ => ?_, fun h3 => ?_⟩)
      · show vp_in (nI p) 10 ∧ ((¬ I1 134 (nI p).toNatClampNeg = 0 → vp_in (nI p) 10 ∧ zx_Ci l E (d + 2) 191 [.ref 132, .int (I1 134 (nI p).toNatClampNeg)] (zx_u2 I1 132 0 0, L, Y) _) ∧ (I1 134 (nI p).toNatClampNeg = 0 → _))
        rw [nI_clamp (by omega), hn']
        exact ⟨hv, fun _ => ⟨hv, zx_Ci.mono hm (fun w M2 g => ⟨g.1, _, rfl, g.2⟩)⟩, fun q => absurd ((zy_eq0 (by omega)).mp q) h0⟩
      · rw [e] at h3; exact absurd h3 (by decide)
    · refine sg_194_0 hY _ (zy_175 (I := zx_u2 I 132 0 0) hY hP h3 ⟨hY, fun _ => ?_, fun h3 => ?_⟩)
      · show vp_in (nI p) 10 ∧ ((¬ I 134 (nI p).toNatClampNeg = 0 → _) ∧ (I 134 (nI p).toNatClampNeg = 0 → _))
        rw [nI_clamp (by omega), (hn p hp).1]
        exact ⟨hv, fun h3 => absurd h2 h3, fun _ => ⟨_, rfl, rfl, hq _ _ S r H keep (zy_fr_u2 (zy_fr_rf _ _) ht)⟩⟩
      · rw [e] at h3; exact absurd h3 (by decide)
  · have e : zy_one P x = false := by
      cases h : zy_one P x
      · rfl
      · rw [h] at h1; exact absurd h1 (by decide)
    refine sg_194_0 hY _ (zy_175 (I := zx_u2 I 132 0 0) hY hP h3 ⟨hY, fun h3 => ?_, fun _ => ⟨_, rfl, rfl, hq _ _ S r H keep (zy_fr_u2 (zy_fr_rf _ _) ht)⟩⟩)
    rw [e] at h3; exact absurd rfl h3
end YJ
