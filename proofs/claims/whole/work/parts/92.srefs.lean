/-! ===== search: the reference's calls, whole ===== -/
/-- what a search of the reference leaves as it was, the row beside -/
def zg_fz (I J : Nat → Nat → Int32) (L K : Nat → Nat → Int64) : Prop :=
  (∀ x k, x ≠ 146 → x ≠ 147 → x ≠ 148 → x ≠ 149 → ¬ (x = 132 ∧ k = 0) → ¬ (x = 132 ∧ k = 33) → ¬ (x = 132 ∧ k = 34) → J x k = I x k) ∧ ∀ x k, x ≠ 145 → K x k = L x k
/-- a full table, in itself -/
def zg_tab (f : Nat → Nat) (P b n : Nat) (s ps c : Nat → Nat) : Prop :=
  n ≤ 20000 ∧ zq_B (zg_st f P) (zg_nx f P b) s ps c n n 0 ∧ ∀ i, i < n → zg_S f P (s i) ∧ c i ≤ zg_ls f P (s i)
theorem zg_F_tab {I : Nat → Nat → Int32} {L : Nat → Nat → Int64} {f : Nat → Nat} {P b n : Nat} {s ps c : Nat → Nat} (h : zg_F I L f P b n s ps c) : zg_tab f P b n s ps c :=
  ⟨h.1.2.1, h.2.2.1, fun i hi => ⟨(h.1.2.2.2 i hi).2.2.2.1, (h.1.2.2.2 i hi).2.2.2.2⟩⟩
/-- the answer of a way, in itself -/
def zg_aw (f : Nat → Nat) (P b n : Nat) (s c : Nat → Nat) (W : Nat → Bool) (v : Int32) (ws : Option (List Int32)) : Prop :=
  ((∀ i, i < n → W i = false) ∧ v = -2 ∧ ws = none) ∨
  ∃ B, ∃ a w : Nat → Nat, B < n ∧ W B = true ∧ (∀ i, i < n → W i = true → zg_kc f P s c B ≤ zg_kc f P s c i) ∧ a 0 = 0 ∧
    (∀ i, i < c B → zg_stp f P b s c n (zg_gd (zg_nx f P b) s c n (c B) (zg_tg f P s c (fun v => W v = true) B)) (a i) (w i) (a (i + 1))) ∧ v = nI (c B) ∧ ws = some (zg_rw w (c B))
/-- the memory behind: the row told anew, or as it was -/
def zg_row (J : Nat → Nat → Int32) : Option (List Int32) → Nat → Nat → Int32
  | none => J
  | some ws => zy_ent J ws
section YRi
variable {l : Launch} {E : zx_E} {d : Nat} {I : Nat → Nat → Int32} {L : Nat → Nat → Int64} {Y : zx_Y} {Qo : Option Value → zx_M → Prop} {Q : Int32 → zx_M → Prop} {Qv : zx_M → Prop} {P b n : Nat} {f s ps c : Nat → Nat}
theorem zg_fz_of {J : Nat → Nat → Int32} {K : Nat → Nat → Int64} (h : zg_fx (zx_u2 I 132 0 0) J L K) : zg_fz I J L K :=
  ⟨fun x k x1 x2 x3 _ x5 x6 x7 => by rw [h.1 x k x1 x2 x3 x6 x7, zy_u2_ne x5], h.2⟩
theorem zg_fz_149 {J J' : Nat → Nat → Int32} {K : Nat → Nat → Int64} (h : zg_fz I J L K) (hJ : ∀ x k, x ≠ 149 → J' x k = J x k) : zg_fz I J' L K :=
  ⟨fun x k x1 x2 x3 x4 x5 x6 x7 => by rw [hJ x k x4]; exact h.1 x k x1 x2 x3 x4 x5 x6 x7, h.2⟩
theorem zg_I_u (hI : zg_I I P f) {v : Int32} : zg_I (zx_u2 I 132 0 v) P f := ⟨hI.1, by rw [zy_u2_nk (by omega)]; exact hI.2.1, fun p hp => by rw [zy_u2_na (by omega)]; exact hI.2.2 p hp⟩
theorem zy_240 (hY : zx_lay Y) (hI : zg_I I P f) (hb : b < 2 ^ 31) (h8 : I 132 8 = nI b)
    (hq3 : ∀ J K, zg_fz I J L K → zg_many f P b → Q (-3) (J, K, Y))
    (hq : ∀ n s ps c J K, zg_tab f P b n s ps c → zg_fz I J L K → Q (nI n) (zy_ent J [nI (zy_cnt (fun i => zg_al (zg_un f P (s i)) P) n), nI (zy_cnt (fun i => decide (s i = 0)) n)], K, Y)) :
    zx_Ci l E (d + 5) 240 [.ref 132] (I, L, Y) Q := by
  refine sg_240_0 hY ?_
  rw [h8]
  refine zy_226F hY (zg_I_u hI) hb (fun n s ps c J K hF hx => ⟨hY, fun _ => ?_, fun h => absurd h (by decide)⟩) (fun J K hx hm => ⟨hY, fun h => absurd rfl h, fun _ => ⟨_, rfl, hq3 J K (zg_fz_of hx) hm⟩⟩)
  exact zy_240_25 hY hF.1.1 hF.1.2 ⟨_, rfl, hq n s ps c J K (zg_F_tab hF) (zg_fz_of hx)⟩
theorem zy_237 (hY : zx_lay Y) (hI : zg_I I P f) (hb : b < 2 ^ 31) (h8 : I 132 8 = nI b) {sd : Nat → Nat} (hsd : ∀ p, p < P → I 136 p = nI (sd p) ∧ sd p ≤ 1)
    (hq3 : ∀ J K, zg_fz I J L K → zg_many f P b → Q (-3) (J, K, Y))
    (hq : ∀ n s ps c J K v ws, zg_tab f P b n s ps c → zg_fz I J L K → zg_aw f P b n s c (fun i => zg_al (zg_ov f s sd i) P) v ws → Q v (zg_row J ws, K, Y)) :
    zx_Ci l E (d + 5) 237 [.ref 132] (I, L, Y) Q := by
  refine sg_237_0 hY ?_
  rw [h8]
  refine zy_226F hY (zg_I_u hI) hb (fun n s ps c J K hF hx => ⟨hY, fun _ => ?_, fun h => absurd h (by decide)⟩) (fun J K hx hm => ⟨hY, fun h => absurd rfl h, fun _ => ⟨_, rfl, hq3 J K (zg_fz_of hx) hm⟩⟩)
  have fz := zg_fz_of hx
  refine zy_237_21 (I := J) (L := K) hY hF (sd := sd) (fun p hp => ?_) ⟨fun hn => ⟨_, rfl, ?_⟩, fun B J' a w o1 o2 o3 j1 w0 w1 => ⟨_, rfl, ?_⟩⟩
  · rw [fz.1 _ _ (by omega) (by omega) (by omega) (by omega) (by omega) (by omega) (by omega)]; exact hsd p hp
  · exact hq n s ps c (zg_mk J (fun i => zg_al (zg_ov f s sd i) P) n) K (-2) none (zg_F_tab hF) (zg_fz_149 fz (fun x k h => zg_mk_el h)) (Or.inl ⟨hn, rfl, rfl⟩)
  · exact hq n s ps c J' K _ (some _) (zg_F_tab hF) (zg_fz_149 fz (fun x k h => by rw [j1 x k h, zg_mk_el h])) (Or.inr ⟨B, a, w, o1, o2, o3, w0, w1, rfl, rfl⟩)
theorem zy_235 (hY : zx_lay Y) (hI : zg_I I P f) (hb : b < 2 ^ 31) (h8 : I 132 8 = nI b) {x : Int64}
    (hq1 : zg_du P x = false → ∀ J, zg_fz I J L L → Q (-1) (J, L, Y))
    (hq3 : zg_du P x = true → ∀ J K, zg_fz I J L K → zg_many f P b → Q (-3) (J, K, Y))
    (hq : ∀ y n s ps c J K v ws, y < 16 ^ P → x = nL y → zg_tab f P b n s ps c → zg_fz I J L K → zg_aw f P b n s c (fun i => zg_al (zg_due f s y i) P) v ws → Q v (zg_row J ws, K, Y)) :
    zx_Ci l E (d + 5) 235 [.ref 132, .long x] (I, L, Y) Q := by
  have uI := zg_I_u hI (v := 0)
  refine sg_235_0 hY _ (zy_232 hY hI.1 uI.2.1 ⟨hY, fun h => ?_, fun h => ⟨_, rfl, ?_⟩⟩)
  · rw [zy_b1] at h
    obtain ⟨y, hy, ex⟩ := zg_du_ok h
    have y40 := zg_40 hI.1 hy
    dsimp only
    rw [zy_u2_nk (show (8 : Nat) ≠ 0 by omega), h8]
    refine zy_226F hY uI hb (fun n s ps c J K hF hx => ⟨hY, fun _ => ?_, fun h => absurd h (by decide)⟩) (fun J K hx hm => ⟨hY, fun h => absurd rfl h, fun _ => ⟨_, rfl, hq3 h J K (zg_fz_of hx) hm⟩⟩)
    have fz := zg_fz_of hx
    have exy := ex
    rw [ex]
    refine zy_234 hY hF.1.1 hF.1.2 (by omega) ⟨hY, ?_⟩
    refine zy_way (I := zg_mk J (fun i => zg_al (zg_due f s y i) P) n) (Q := fun v M => ∃ v', some (Value.int v) = some (.int v') ∧ Q v' M) hY (zg_F_cong hF (fun a k x _ _ => zg_mk_el x)) (fun i hi => zg_mk_at hi) ⟨fun hn => ⟨_, rfl, ?_⟩, fun B J' a w o1 o2 o3 j1 w0 w1 => ⟨_, rfl, ?_⟩⟩
    · exact hq y n s ps c (zg_mk J (fun i => zg_al (zg_due f s y i) P) n) K (-2) none hy exy (zg_F_tab hF) (zg_fz_149 fz (fun x k h => zg_mk_el h)) (Or.inl ⟨hn, rfl, rfl⟩)
    · exact hq y n s ps c J' K _ (some _) hy exy (zg_F_tab hF) (zg_fz_149 fz (fun x k h => by rw [j1 x k h, zg_mk_el h])) (Or.inr ⟨B, a, w, o1, o2, o3, w0, w1, rfl, rfl⟩)
  · rw [zy_b0] at h
    exact hq1 h _ ⟨fun x k _ _ _ _ x5 _ _ => zy_u2_ne x5, fun _ _ _ => rfl⟩
/-- the answer of losses() -/
def zg_al2 (f : Nat → Nat) (P n : Nat) (s c : Nat → Nat) (W : Nat → Bool) (m : Nat) (v : Int32) (ws : Option (List Int32)) : Prop :=
  ((∀ i, i < n → W i = false) ∧ v = -2 ∧ ws = none) ∨
  ∃ B, B < n ∧ W B = true ∧ (∀ i, i < n → W i = true → zg_kl f P s c B ≤ zg_kl f P s c i) ∧ v = nI (zg_ls f P (s B)) - nI m ∧ ws = some [nI (c B)]
theorem zy_236 (hY : zx_lay Y) (hI : zg_I I P f) (hb : b < 2 ^ 31) (h8 : I 132 8 = nI b) {x : Int64}
    (hq1 : zg_du P x = false → ∀ J, zg_fz I J L L → Q (-1) (J, L, Y))
    (hq3 : zg_du P x = true → ∀ J K, zg_fz I J L K → zg_many f P b → Q (-3) (J, K, Y))
    (hq : ∀ y n s ps c J K v ws, y < 16 ^ P → x = nL y → zg_tab f P b n s ps c → zg_fz I J L K → zg_al2 f P n s c (fun i => zg_al (zg_due f s y i) P) 0 v ws → Q v (zg_row J ws, K, Y)) :
    zx_Ci l E (d + 5) 236 [.ref 132, .long x] (I, L, Y) Q := by
  have uI := zg_I_u hI (v := 0)
  refine sg_236_0 hY _ (zy_232 hY hI.1 uI.2.1 ⟨hY, fun h => ?_, fun h => ⟨_, rfl, ?_⟩⟩)
  · rw [zy_b1] at h
    obtain ⟨y, hy, ex⟩ := zg_du_ok h
    have y40 := zg_40 hI.1 hy
    dsimp only
    rw [zy_u2_nk (show (8 : Nat) ≠ 0 by omega), h8]
    refine zy_226F hY uI hb (fun n s ps c J K hF hx => ⟨hY, fun _ => ?_, fun h => absurd h (by decide)⟩) (fun J K hx hm => ⟨hY, fun h => absurd rfl h, fun _ => ⟨_, rfl, hq3 h J K (zg_fz_of hx) hm⟩⟩)
    have fz := zg_fz_of hx
    have exy := ex
    rw [ex]
    refine zy_234 hY hF.1.1 hF.1.2 (by omega) ⟨hY, ?_⟩
    have mF : zg_F (zg_mk J (fun i => zg_al (zg_due f s y i) P) n) K f P b n s ps c := zg_F_cong hF (fun a k x _ _ => zg_mk_el x)
    have ok := zg_fb_ok (W := fun i => zg_al (zg_due f s y i) P) (κ := zg_kl f P s c) n
    refine zy_236_39 (I := zg_mk J (fun i => zg_al (zg_due f s y i) P) n) hY mF.1.1 mF.1.2 (fun i hi => zg_mk_at hi) (fun e => ⟨_, rfl, ?_⟩) (fun B e hB => ⟨_, rfl, ?_⟩)
    · rw [e] at ok
      exact hq y n s ps c (zg_mk J (fun i => zg_al (zg_due f s y i) P) n) K (-2) none hy exy (zg_F_tab hF) (zg_fz_149 fz (fun x k h => zg_mk_el h)) (Or.inl ⟨ok, rfl, rfl⟩)
    · rw [e] at ok
      exact hq y n s ps c (zg_mk J (fun i => zg_al (zg_due f s y i) P) n) K _ (some _) hy exy (zg_F_tab hF) (zg_fz_149 fz (fun x k h => zg_mk_el h)) (Or.inr ⟨B, ok.1, ok.2.1, ok.2.2.1, by rw [nI_0, Int32.sub_zero], rfl⟩)
  · rw [zy_b0] at h
    exact hq1 h _ ⟨fun x k _ _ _ _ x5 _ _ => zy_u2_ne x5, fun _ _ _ => rfl⟩
end YRi
