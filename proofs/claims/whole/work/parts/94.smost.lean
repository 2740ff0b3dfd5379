/-! ===== search: most of the reference ===== -/
/-- the letters of all names, each name once -/
def zg_ml (f : Nat → Nat) (P : Nat) : Nat := zg_sm (fun p => if zy_low (zy_orN (fun q => decide (f q = f p)) P) = p then zy_len (f p) else 0) P
def zg_o6 (c : Nat → Nat) : Option Nat → Int32
  | none => -1
  | some i => nI (c i)
section YRk
variable {l : Launch} {E : zx_E} {d : Nat} {I : Nat → Nat → Int32} {L : Nat → Nat → Int64} {Y : zx_Y} {Qo : Option Value → zx_M → Prop} {Q : Int32 → zx_M → Prop} {Qv : zx_M → Prop} {P b n : Nat} {f s ps c : Nat → Nat}
theorem zy_230_67 (hY : zx_lay Y) (hI : zg_I I P f) {v : Int32} (hq : Qo (some (.int (nI (zg_ml f P)))) (zy_ent I [v], L, Y)) :
    zx_To l E (d + 1) 230 67 [some (.ref 132), some (.int 0), some (.int v), some (.int 0)] [] (I, L, Y) Qo := by
  obtain ⟨hP, h3, h4⟩ := hI
  refine zy_down (n := P) (P := fun p => zx_To l E (d + 1) 230 67 [some (.ref 132), some (.int (nI (zg_sm (fun p => if zy_low (zy_orN (fun q => decide (f q = f p)) P) = p then zy_len (f p) else 0) p))), some (.int v), some (.int (nI p))] [] (I, L, Y) Qo) ?_ (fun p hp ih => ?_)
  · refine sg_230_67 hY _ _ _ ⟨fun _ => ?_, fun h => absurd (by rw [h3]; exact (nI_leI (by omega) (by omega)).mpr (Nat.le_refl _)) h⟩
    rw [zy_ent_nil]
    exact zy_170 hY (by simp) ⟨hY, hq⟩
  · obtain ⟨e, hf⟩ := h4 p hp
    have em : zy_or (fun q => decide (I 134 q = nI (f p))) P = nI (zy_orN (fun q => decide (f q = f p)) P) := by
      rw [zy_or_nI _ _ (by omega)]
      congr 1
      refine zy_orN_cong (fun q hq => ?_)
      obtain ⟨e2, hf2⟩ := h4 q hq
      rw [e2]
      exact decide_eq_decide.mpr (nI_eq (by omega) (by omega))
    have ll := zy_low32 (zy_orN (fun q => decide (f q = f p)) P)
    rw [zg_sm] at ih
    refine sg_230_67 hY _ _ _ ⟨fun h => ?_, fun _ => ⟨vp_in_nI (by omega) (by omega), ?_⟩⟩
    · rw [h3, nI_leI (by omega) (by omega)] at h; omega
    rw [nI_clamp (by omega), e]
    refine zy_189 hY hP h3 ⟨hY, ?_⟩
    rw [em]
    refine zy_265 hY (zy_orN10 _ hP) ⟨hY, ?_⟩
    rw [nI_eq (by omega) (by omega), nI_1]
    refine ⟨fun h => ?_, fun h => ⟨vp_in_nI (by omega) (by omega), ?_⟩⟩
    · rw [if_neg h] at ih
      rw [Int32.add_zero]; exact ih
    · rw [if_pos h] at ih
      dsimp only
      rw [e]
      refine zy_171 hY (by omega) ⟨hY, ?_⟩
      rw [nI_add]; exact ih
theorem zy_230 (hY : zx_lay Y) (hI : zg_I I P f)
    (hq3 : ∀ J K, zg_fz I J L K → zg_many f P P → Q (-3) (J, K, Y))
    (hq : ∀ n s ps c J K, zg_tab f P P n s ps c → zg_fz I J L K → Q (nI (zg_ml f P)) (zy_ent J [zg_o6 c (zg_fb (fun i => decide (s i = 0)) (fun _ => 0) n)], K, Y)) :
    zx_Ci l E (d + 5) 230 [.ref 132] (I, L, Y) Q := by
  have hP := hI.1
  refine sg_230_0 hY ?_
  rw [hI.2.1]
  refine zy_226F hY (zg_I_u hI) (by omega) (fun n s ps c J K hF hx => ⟨hY, fun _ => ?_, fun h => absurd h (by decide)⟩) (fun J K hx hm => ⟨hY, fun h => absurd rfl h, fun _ => ⟨_, rfl, hq3 J K (zg_fz_of hx) hm⟩⟩)
  have qq := hq n s ps c J K (zg_F_tab hF) (zg_fz_of hx)
  obtain ⟨⟨fI, fR⟩, -, fB, -⟩ := id hF
  obtain ⟨hn, h33, hr⟩ := id fR
  have l80 : ∀ i, zg_ls f P (s i) ≤ 80 := fun i => zg_ls_80 hI.1 (fun p hp => (hI.2.2 p hp).2)
  refine zy_down (n := n) (P := fun i => zx_To l E (d + 5) 230 25 [some (.ref 132), some (.int 0), some (.int (zg_o6 c (zg_fb (fun i => decide (s i = 0)) (fun _ => 0) i))), some (.int (nI i))] [] (J, K, Y) (fun r M' => ∃ v, r = some (.int v) ∧ Q v M')) ?_ (fun i hi ih => ?_)
  · refine sg_230_25 hY _ _ _ ⟨fun _ => ?_, fun h => absurd (by rw [h33]; exact (nI_leI (by omega) (by omega)).mpr (Nat.le_refl _)) h⟩
    exact zy_230_67 hY fI ⟨_, rfl, qq⟩
  · have hin : vp_in (nI i) 20000 := vp_in_nI (by omega) (by omega)
    obtain ⟨a1, -, a3, a4, a5⟩ := hr i hi
    have s40 := zg_40 hP a4.1
    have ok := zg_fb_ok (W := fun i => decide (s i = 0)) (κ := fun _ => 0) i
    rw [zg_fb] at ih
    refine sg_230_25 hY _ _ _ ⟨fun h => ?_, fun _ => ⟨hin, ?_⟩⟩
    · rw [h33, nI_leI (by omega) (by omega)] at h; omega
    rw [nI_clamp (by omega), a3, show (0 : Int64) = nL 0 from rfl, nL_cmp (by omega) (by omega), nI_1]
    refine ⟨fun h => ?_, fun h => ?_⟩
    · rw [decide_eq_false h, if_neg (by decide)] at ih; exact ih
    · rw [decide_eq_true h, if_pos rfl] at ih
      cases e : zg_fb (fun i => decide (s i = 0)) (fun _ => 0) i with
      | none =>
        rw [e] at ih
        refine ⟨fun q => absurd q (by show ¬ (0 : Int32) ≤ -1; decide), fun _ => ⟨hin, ?_⟩⟩
        rw [a1]; exact ih
      | some k =>
        rw [e] at ih ok
        dsimp only at ih
        rw [if_neg (by omega)] at ih
        have hk := ok.1
        have := (hr k (by omega)).2.2.2.2
        have := l80 k
        exact ⟨fun _ => ih, fun q => absurd (by show (0 : Int32) ≤ nI (c k); rw [← nI_0, nI_leI (by omega) (by omega)]; omega) q⟩
end YRk
