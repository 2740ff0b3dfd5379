/-! ===== search: most: class = reference ===== -/
section MP
variable {f π : Nat → Nat} {P N : Nat}
def zm_q (f : Nat → Nat) (P w : Nat) : Bool := !decide (w = 0) && (List.range P).any (fun p => decide (zy_len w ≤ zy_len (f p)) && decide (zy_pf (f p) (zy_len w) = w))
theorem zm_q_iff {w : Nat} : zm_q f P w = true ↔ w ≠ 0 ∧ ∃ p, p < P ∧ zy_pf (f p) (zy_len w) = w := by
  unfold zm_q
  rw [Bool.and_eq_true, Bool.not_eq_true', decide_eq_false_iff_not, List.any_eq_true]
  constructor
  · rintro ⟨h1, p, h2, h3⟩
    rw [Bool.and_eq_true, decide_eq_true_eq, decide_eq_true_eq] at h3
    exact ⟨h1, p, List.mem_range.mp h2, h3.2⟩
  · rintro ⟨h1, p, h2, h4⟩
    have := congrArg zy_len h4
    rw [zy_len_pf] at this
    exact ⟨h1, p, List.mem_range.mpr h2, by rw [decide_eq_true (show zy_len w ≤ zy_len (f p) by omega), decide_eq_true h4]; rfl⟩
theorem zm_pq (hf : ∀ p, p < P → zy_len (f p) ≤ 8) (w : Nat) : zm_p f P (zg_st f P) w = zm_q f P w := by
  refine zb_ext ?_
  rw [zm_p_iff, zm_q_iff]
  constructor
  · rintro ⟨h1, p, h2, -, h4⟩
    exact ⟨h1, p, h2, h4⟩
  · rintro ⟨h1, p, h2, h4⟩
    have := congrArg zy_len h4
    rw [zy_len_pf] at this
    exact ⟨h1, p, h2, by rw [zg_st_d hf h2]; omega, h4⟩
theorem zm_asc {t : Nat × Nat × Nat} : ∀ n, (zy_asc (zy_tst f P) n t).1 = t.1 + zy_cnt (fun n => zy_fst f P (n + 1)) n
  | 0 => rfl
  | n + 1 => by
    rw [zy_asc, zy_cnt]
    have ih := zm_asc (t := t) n
    unfold zy_tst
    cases e : zy_fst f P (n + 1) with
    | true =>
      rw [if_pos rfl, if_pos rfl]
      show (zy_asc (zy_tst f P) n t).1 + 1 = _
      rw [ih]; omega
    | false =>
      rw [if_neg (by decide), if_neg (by decide)]
      show (zy_asc (zy_tst f P) n t).1 = _
      rw [ih]; omega
theorem zm_bg {w q : Nat} (hw : w ≠ 0) : zy_bg f w q = true ↔ zy_pf (f q) (zy_len w) = w := by
  unfold zy_bg zy_st
  rw [Bool.and_eq_true, decide_eq_true_eq, decide_eq_true_eq]
  refine ⟨fun h => h.2, fun h => ⟨fun z => ?_, h⟩⟩
  rw [z] at h
  have := zy_pf_le 0 (zy_len w)
  omega
/-- the tree's count -/
theorem zm_tre : ∀ P, (∀ p, p < P → f p < 5764801) → zy_cnt (zm_q f P) 5764801 = (zy_tre f P).1
  | 0, _ => by
    have : ∀ n, zy_cnt (zm_q f 0) n = 0 := by
      intro n
      induction n with
      | zero => rfl
      | succ n ih =>
        rw [zy_cnt, ih]
        cases e : zm_q f 0 n with
        | false => rfl
        | true => obtain ⟨-, p, hp, -⟩ := zm_q_iff.mp e; omega
    exact this _
  | P + 1, hf => by
    have ih := zm_tre P (fun p hp => hf p (by omega))
    have fP := hf P (by omega)
    have new : ∀ w, ((List.range (zy_len (f P))).any (fun n => zy_fst f P (n + 1) && decide (zy_pf (f P) (n + 1) = w))) = true ↔ (w ≠ 0 ∧ zy_pf (f P) (zy_len w) = w) ∧ ∀ q, q < P → zy_pf (f q) (zy_len w) ≠ w := fun w => by
      rw [List.any_eq_true]
      constructor
      · rintro ⟨n, n1, n2⟩
        have n1 := List.mem_range.mp n1
        rw [Bool.and_eq_true, decide_eq_true_eq, zy_fst_iff] at n2
        have lw := congrArg zy_len n2.2
        rw [zy_len_pf] at lw
        have w0 : w ≠ 0 := fun z => by rw [z, zy_len_0] at lw; omega
        refine ⟨⟨w0, by rw [← lw, show min (zy_len (f P)) (n + 1) = n + 1 by omega]; exact n2.2⟩, fun q hq z => ?_⟩
        have := n2.1 q hq
        rw [n2.2, (zm_bg w0).mpr z] at this
        cases this
      · rintro ⟨⟨w0, hw⟩, hq⟩
        have lw := congrArg zy_len hw
        rw [zy_len_pf] at lw
        have l0 : zy_len w ≠ 0 := fun z => w0 (zy_len_pos.mp z)
        refine ⟨zy_len w - 1, List.mem_range.mpr (by omega), ?_⟩
        rw [show zy_len w - 1 + 1 = zy_len w by omega, Bool.and_eq_true, decide_eq_true_eq, zy_fst_iff, hw]
        refine ⟨fun q hq2 => ?_, rfl⟩
        cases e : zy_bg f w q with
        | false => rfl
        | true => exact absurd ((zm_bg w0).mp e) (hq q hq2)
    have e1 : zy_cnt (zm_q f (P + 1)) 5764801 = zy_cnt (fun w => zm_q f P w || (List.range (zy_len (f P))).any (fun n => zy_fst f P (n + 1) && decide (zy_pf (f P) (n + 1) = w))) 5764801 := zy_cnt_cong (fun w _ => by
      refine zb_ext ?_
      rw [Bool.or_eq_true, zm_q_iff, zm_q_iff, new w]
      constructor
      · rintro ⟨h1, p, h2, h3⟩
        by_cases z : ∃ q, q < P ∧ zy_pf (f q) (zy_len w) = w
        · exact Or.inl ⟨h1, z⟩
        · refine Or.inr ⟨⟨h1, ?_⟩, fun q hq w2 => z ⟨q, hq, w2⟩⟩
          by_cases e : p = P
          · rw [e] at h3; exact h3
          · exact absurd ⟨p, by omega, h3⟩ z
      · rintro (⟨h1, p, h2, h3⟩ | ⟨⟨h1, h2⟩, -⟩)
        · exact ⟨h1, p, by omega, h3⟩
        · exact ⟨h1, P, by omega, h2⟩)
    rw [e1, zy_cnt_or (fun w _ hw => by
      cases e : (List.range (zy_len (f P))).any (fun n => zy_fst f P (n + 1) && decide (zy_pf (f P) (n + 1) = w)) with
      | false => rfl
      | true =>
        obtain ⟨-, q, hq, h3⟩ := zm_q_iff.mp hw
        exact absurd h3 (((new w).mp e).2 q hq)), ih, zm_img (g := fun n => zy_pf (f P) (n + 1)) (F := fun n => zy_fst f P (n + 1)) (zy_len (f P)) (fun n _ => Nat.lt_of_le_of_lt (zy_pf_le _ _) fP) (fun i k h1 h2 e => by
      have := congrArg zy_len e
      rw [zy_len_pf, zy_len_pf] at this
      omega), zy_tre, zm_asc]
/-- the empty state: its fewest calls -/
theorem zm_dist (hF : zs_F f P) {n : Nat} {s c : Nat → Nat} (hT : zh_T f P P (fun _ => true) n s c) : ∃ i, i < n ∧ s i = 0 ∧ c i = (zy_tre f P).1 := by
  have hP := hF.1
  have hf : ∀ p, p < P → zy_len (f p) ≤ 8 := fun p hp => zs_F8 hF (by omega)
  have hf2 : ∀ p, p < P → f p < 5764801 := fun p hp => (hF.2.1 p (by omega)).1
  obtain ⟨k, k1, k2⟩ := zm_ub hf2 _ (zg_st f P) (Nat.le_refl _) (zg_st_S hf)
  obtain ⟨i, i1, i2, i3⟩ := hT.2.2 _ _ k2
  have lb := zm_lb (zg_st_S hf) (hT.2.1 i i1).2
  rw [i2, zm_F0, Nat.zero_add] at lb
  have eF : zm_F f P (zg_st f P) = (zy_tre f P).1 := by
    rw [← zm_tre P hf2]
    exact zy_cnt_cong (fun w _ => zm_pq hf w)
  exact ⟨i, i1, i2, by rw [← eF]; omega⟩
theorem zm_nV (hF : zs_F f P) (hO : zs_Om f 10 N π) : zs_nV f π N 10 = zs_nV f π N P := by
  have hP := hF.1
  have NP : N ≤ P := by
    have := zs_cnt_pl hF hO (m := fun p => !decide (f p = 0)) (fun p _ h => by
      rw [Bool.not_eq_true', decide_eq_false_iff_not] at h; exact h)
    have e : zy_cnt (fun j => !decide (f (π j) = 0)) N = zy_cnt (fun _ => true) N := zy_cnt_cong (fun j hj => by rw [decide_eq_false (hO.2.1 j hj).2]; rfl)
    have h2 := zy_cnt_le (p := fun p => !decide (f p = 0)) P
    rw [e, zy_cnt_true] at this
    omega
  unfold zs_nV
  congr 1
  refine List.filter_congr (fun e _ => ?_)
  unfold zs_ok
  refine zg_al_cong (fun i hi => ?_)
  have st : ∀ b, N ≤ b → zs_stay f π N b i = false := fun b hb => by
    unfold zs_stay
    have := zy_cnt_le (p := fun j => decide (f (π j) = f (π i))) N
    exact decide_eq_false (by omega)
  rw [st 10 (by omega), st P NP]
end MP
section YL
variable {l : Launch} {E : zx_E} {d : Nat} {I : Nat → Nat → Int32} {L : Nat → Nat → Int64} {Y : zx_Y} {Qo : Option Value → zx_M → Prop} {Q : Int32 → zx_M → Prop} {Ql : Int64 → zx_M → Prop} {Qv : zx_M → Prop} {f f0 : Nat → Nat} {P S b B k r : Nat} {H : List (Nat × Nat)} {vs : List Int32}
theorem zm_24 (hY : zx_lay Y) (hp : zv_P I P S b f) (hq : zx_To l E (d + 3) 136 24 [some (.ref 3), some (.int (nI (zg_ml f P))), some (.int (nI P)), none] [] (I, L, Y) Qo) : zx_To l E (d + 3) 136 24 [some (.ref 3), some (.int 0), some (.int 0), none] [] (I, L, Y) Qo := by
  obtain ⟨hF, ⟨h9, hz⟩, hI, ⟨h7, h8, hS2⟩, -, -⟩ := hp
  have hP := hF.1
  refine zy_down (n := P) (P := fun p => zx_To l E (d + 3) 136 24 [some (.ref 3), some (.int (nI (zg_sm (fun p => if zy_low (zy_orN (fun q => decide (f q = f p)) P) = p then zy_len (f p) else 0) p))), some (.int (nI p)), none] [] (I, L, Y) Qo) hq (fun p hp ih => ?_)
  have fp := (hF.2.1 p (by omega)).1
  rw [zg_sm] at ih
  refine sg_136_24 hY _ _ ⟨fun h => ?_, fun _ => ⟨vp_in_nI (by omega) (by omega), ?_⟩⟩
  · rw [h7, nI_leI (by omega) (by omega)] at h; omega
  rw [nI_clamp (by omega), h9 p (by omega), nI_1]
  refine ⟨fun z => ?_, fun z => zy_c5 hY ⟨hY, ?_⟩⟩
  · rw [← nI_0, nI_eq (by omega) (by omega)] at z
    rw [z, zy_len_0, show (if zy_low (zy_orN (fun q => decide (f q = 0)) P) = p then 0 else 0) = 0 by split <;> rfl, Nat.add_zero] at ih
    exact ih
  · rw [← nI_0, nI_eq (by omega) (by omega)] at z
    have e10 : zy_or (fun q => decide (I 9 q = nI (f p))) 10 = nI (zy_orN (fun q => decide (f q = f p)) P) := by
      rw [zy_or_nI _ _ (by omega)]
      congr 1
      rw [← zy_orN_ext (p := fun q => decide (f q = f p)) hP (fun q h1 h2 => decide_eq_false (by rw [hF.2.2 q h1 h2]; exact fun w => z w.symm))]
      refine zy_orN_cong (fun q hq => ?_)
      rw [h9 q hq]
      exact decide_eq_decide.mpr (nI_eq (by have := (hF.2.1 q hq).1; omega) (by omega))
    have ll := zy_low32 (zy_orN (fun q => decide (f q = f p)) P)
    rw [e10]
    refine zy_265 hY (zy_orN10 _ hP) ⟨hY, ?_⟩
    rw [nI_eq (by omega) (by omega)]
    refine ⟨fun w => ?_, fun w => ?_⟩
    · rw [if_neg w, Nat.add_zero] at ih; exact ih
    · rw [if_pos w] at ih
      refine zy_161 hY fp ⟨hY, ?_⟩
      rw [nI_add]; exact ih
theorem zj_most (hY : zx_lay Y) (hC : zc_C I P S b r H) (hR : zc_R I vs) (hS : zs_S1 I L Y f0 B k) (hq : ∀ f, zs_En I Y f B (k + 1) Q) :
    zx_Ci l E (d + 7) 136 [.ref 3] (I, L, Y) (fun v M1 => zx_lay M1.2.2 ∧ zx_Ci l E (d + 7) 230 [.ref 132] M1 (fun w M2 => w = v ∧ Q v M2)) := by
  obtain ⟨f, hp⟩ := zv_of hC
  obtain ⟨hF, ⟨h9, hz⟩, hI, ⟨h7, h8, hS2⟩, ⟨b3, b4, b1, b2⟩, hsd⟩ := id hp
  have hP := hF.1
  refine sg_136_0 hY (zy_84 (d := d + 2) hY (zv_10 hF) h9 hz hS (fun J K N π hO hS1 fk => ⟨hY, ?_⟩))
  have jp := zv_Ik hp fk
  have cl := zs_cp_le (zs_nV f π N 10)
  rw [show (20000 : Int32) = nI 20000 from rfl, nI_leI (by omega) (by omega)]
  refine ⟨fun hle => ?_, fun hgt => ⟨_, rfl, hY, ?_⟩⟩
  · have hle2 : zs_nV f π N P ≤ 20000 := by rw [← zm_nV hF hO]; unfold zs_cp at hle; omega
    refine zm_24 (d := d + 4) hY jp ?_
    refine sg_136_24 hY _ _ ⟨fun _ => ?_, fun h => absurd (by show J 8 7 ≤ nI P; rw [jp.2.2.2.1.1]; exact (nI_leI (by omega) (by omega)).mpr (Nat.le_refl _)) h⟩
    refine zy_135 (d := d + 4) (f := f) (P := P) hY hP jp.2.2.2.1.1 (fun p hp2 => ⟨jp.2.1.1 p hp2, (hF.2.1 p hp2).1⟩) ⟨hY, ?_⟩
    generalize hJ1 : zy_tell J (if (zy_tre f P).1 = 0 then [] else [nI (zy_tre f P).2.1, nI (zy_tre f P).2.2]) = J1
    have eJ1 : ∀ a x, ¬ (a = 6 ∧ x = 1) → a ≠ 7 → J1 a x = J a x := fun a x h1 h2 => by rw [← hJ1]; exact zy_tell_el ⟨h1, h2⟩
    refine zy_81 (I := J1) (L := K) hY ⟨hY, zy_82 (I := J1) (L := K) (vs := []) hY (by decide) ⟨hY, _, rfl, hY, ?_⟩⟩
    have jp1 : zv_P J1 P S b f := by rw [← hJ1]; exact zv_tell jp
    have tp := zv_tell (ws := [nI (zy_tre f P).1]) jp1
    refine zy_230 (d := d + 2) (I := zy_tell J1 [nI (zy_tre f P).1]) (L := K) hY tp.2.2.1 (fun J' K' fz hm => absurd (zs_nV_many hF hO hm) (by omega)) (fun n s ps c J' K' ht fz => ⟨rfl, ?_⟩)
    have hf : ∀ p, p < P → zy_len (f p) ≤ 8 := fun p hp => zs_F8 hF (by omega)
    have hT := zh_T_of (zg_st_S hf) (zh_nx_ref hP) ht.2.1
    obtain ⟨i, i1, i2, i3⟩ := zm_dist hF hT
    have erow : zg_o6 c (zg_fb (fun i => decide (s i = 0)) (fun _ => 0) n) = nI (zy_tre f P).1 := by
      have ok := zg_fb_ok (W := fun i => decide (s i = 0)) (κ := fun _ => 0) n
      cases e : zg_fb (fun i => decide (s i = 0)) (fun _ => 0) n with
      | none =>
        rw [e] at ok
        exact absurd i2 (of_decide_eq_false (ok i i1))
      | some j =>
        rw [e] at ok
        have ej := of_decide_eq_true ok.2.1
        have := hT.1 j i ok.1 i1 (by rw [ej, i2])
        show nI (c j) = _
        rw [this, i3]
    rw [erow]
    refine hq f _ _ K' Y _ hY (zv_told (J := J1) (by simp) fz) (zs_S1_up (zs_S1_same hS1 (fun a x h => ?_) (fun a x h => fz.2 a x (by omega)))) (fun a x a1 a2 a3 a4 a5 a6 a7 => ?_) (fun _ _ _ _ => rfl) (by omega)
    · rw [zy_ent_el (by omega), fz.1 a x (by omega) (by omega) (by omega) (by omega) (by omega) (by omega) (by omega), zy_tell_el (by omega)]; exact eJ1 a x (by omega) (by omega)
    · rw [zy_ent_el (by omega), fz.1 a x (by omega) (by omega) (by omega) (by omega) (by omega) (by omega) (by omega), zy_tell_el (by omega), eJ1 a x (by omega) (by omega)]; exact fk.1 a x a1 a2
  · have hgt2 : 20000 < zs_nV f π N P := by rw [← zm_nV hF hO]; unfold zs_cp at hgt; omega
    refine zy_230 (d := d + 2) hY jp.2.2.1 (fun J' K' fz _ => ⟨rfl, zv_fin (ws0 := none) hY (fun _ w => (by cases w)) hR fk (zs_S1_up hS1) (fun _ _ _ _ => rfl) (by omega) hq fz⟩) (fun n s ps c J' K' ht => ?_)
    obtain ⟨t1, t2⟩ := zv_many hF hO ht
    omega
end YL
