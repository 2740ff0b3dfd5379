/-! ===== search: explores and the way, in one ===== -/
/-- what explores leaves as it was -/
def zg_fx (I J : Nat → Nat → Int32) (L K : Nat → Nat → Int64) : Prop :=
  (∀ x k, x ≠ 146 → x ≠ 147 → x ≠ 148 → ¬ (x = 132 ∧ k = 33) → ¬ (x = 132 ∧ k = 34) → J x k = I x k) ∧ ∀ x k, x ≠ 145 → K x k = L x k
/-- more than 20000 states come -/
def zg_many (f : Nat → Nat) (P b : Nat) : Prop := ∃ s : Nat → Nat, (∀ i, i < 20001 → ∃ k, zq_P (zg_st f P) (zg_nx f P b) k (s i)) ∧ ∀ i k, i < 20001 → k < 20001 → s i = s k → i = k
section YRh
variable {l : Launch} {E : zx_E} {d : Nat} {I : Nat → Nat → Int32} {L : Nat → Nat → Int64} {Y : zx_Y} {Qo : Option Value → zx_M → Prop} {Q : Int32 → zx_M → Prop} {Qv : zx_M → Prop} {P b n : Nat} {f s ps c : Nat → Nat}
theorem zy_226F (hY : zx_lay Y) (hI : zg_I I P f) (hb : b < 2 ^ 31)
    (hq1 : ∀ n s ps c J K, zg_F J K f P b n s ps c → zg_fx I J L K → Q 1 (J, K, Y))
    (hq0 : ∀ J K, zg_fx I J L K → zg_many f P b → Q 0 (J, K, Y)) : zx_Ci l E (d + 4) 226 [.ref 132, .int (nI b)] (I, L, Y) Q := by
  obtain ⟨hP, h3, h4⟩ := id hI
  have fx : ∀ J K n s ps c a j, zg_V (zx_u2 I 132 34 (nI b)) L f P b J K n s ps c a j → zg_fx I J L K := fun J K n s ps c a j h => by
    obtain ⟨-, -, -, v6, v7⟩ := h
    refine ⟨fun x k x1 x2 x3 x4 x5 => ?_, v7⟩
    rw [v6 x k x1 x2 x3 x4, zy_u2_ne x5]
  refine zy_226 hY hI hb (fun n s ps c J K hV => hq1 n s ps c J K ?_ (fx J K n s ps c n 0 hV)) (fun s ps c J K a j t k hV hk hn => hq0 J K (fx J K 20000 s ps c a j hV) ?_)
  · obtain ⟨g1, -⟩ := fx J K n s ps c n 0 hV
    refine ⟨⟨⟨hP, by rw [g1 _ _ (by omega) (by omega) (by omega) (by omega) (by omega)]; exact h3, fun p hp => by rw [g1 _ _ (by omega) (by omega) (by omega) (by omega) (by omega)]; exact h4 p hp⟩, zg_V_R hV⟩, ⟨hb, ?_⟩, hV.1.2.2, hV.2.2.1⟩
    rw [hV.2.2.2.1 132 34 (by omega) (by omega) (by omega) (by omega)]; exact zy_u2_self
  · obtain ⟨⟨-, -, v3⟩, -⟩ := hV
    refine ⟨fun i => if i = 20000 then t else s i, fun i hi => ?_, fun i m hi hm e => ?_⟩
    · dsimp only
      by_cases z : i = 20000
      · rw [if_pos z]; exact ⟨k, hk⟩
      · rw [if_neg z]; exact ⟨c i, zq_reach v3 i (by omega)⟩
    · dsimp only at e
      by_cases z : i = 20000
      · by_cases z2 : m = 20000
        · omega
        · rw [if_pos z, if_neg z2] at e; exact absurd e.symm (hn m (by omega))
      · by_cases z2 : m = 20000
        · rw [if_neg z, if_pos z2] at e; exact absurd e (hn i (by omega))
        · rw [if_neg z, if_neg z2] at e; exact v3.2.1 i m (by omega) (by omega) e
/-- the key of fewest() and river(): calls, then letters -/
def zg_kc (f : Nat → Nat) (P : Nat) (s c : Nat → Nat) : Nat → Nat := fun i => c i * 128 + zg_ls f P (s i)
/-- the answer of a way -/
def zg_an (f : Nat → Nat) (P b n : Nat) (s c : Nat → Nat) (W : Nat → Bool) (I : Nat → Nat → Int32) (L : Nat → Nat → Int64) (Y : zx_Y) (Q : Int32 → zx_M → Prop) : Prop :=
  ((∀ i, i < n → W i = false) → Q (-2) (I, L, Y)) ∧
  ∀ B (J : Nat → Nat → Int32) (a w : Nat → Nat), B < n → W B = true → (∀ i, i < n → W i = true → zg_kc f P s c B ≤ zg_kc f P s c i) → (∀ x k, x ≠ 149 → J x k = I x k) → a 0 = 0 →
    (∀ i, i < c B → zg_stp f P b s c n (zg_gd (zg_nx f P b) s c n (c B) (zg_tg f P s c (fun v => W v = true) B)) (a i) (w i) (a (i + 1))) → Q (nI (c B)) (zy_ent J (zg_rw w (c B)), L, Y)
theorem zy_way (hY : zx_lay Y) (hF : zg_F I L f P b n s ps c) {W : Nat → Bool} (hW : ∀ i, i < n → I 149 i = if W i then 1 else 0) (hq : zg_an f P b n s c W I L Y Q) :
    zx_Ci l E (d + 4) 227 [.ref 132] (I, L, Y) (fun v M => zx_lay M.2.2 ∧ (((0 : Int32) ≤ v → zx_Ci l E (d + 4) 228 [.ref 132, .int v] (M.1, M.2.1, M.2.2) (fun v4 M3 => zx_lay M3.2.2 ∧ Q v4 (M3.1, M3.2.1, M3.2.2))) ∧ (¬ (0 : Int32) ≤ v → Q (-2) (M.1, M.2.1, M.2.2)))) := by
  refine zy_227 hY hF.1.1 hF.1.2 hW ⟨hY, ?_⟩
  have ok := zg_fb_ok (W := W) (κ := fun i => c i * 128 + zg_ls f P (s i)) n
  have hn := hF.1.2.1
  cases e : zg_fb W (fun i => c i * 128 + zg_ls f P (s i)) n with
  | none =>
    rw [e] at ok
    exact ⟨fun h => absurd h (by decide), fun _ => hq.1 ok⟩
  | some B =>
    rw [e] at ok
    obtain ⟨o1, o2, o3, -⟩ := ok
    refine ⟨fun _ => ?_, fun h => absurd (by show (0 : Int32) ≤ nI B; rw [← nI_0, nI_leI (by omega) (by omega)]; omega) h⟩
    refine zy_228 (W := fun v => W v = true) hY hF o1 (fun k hk => ?_) o2 (fun J a w j1 w0 w1 => ⟨hY, hq.2 B J a w o1 o2 o3 j1 w0 w1⟩)
    rw [hW k hk]
    cases z : W k with
    | true => exact Or.inl ⟨rfl, rfl⟩
    | false => exact Or.inr ⟨rfl, fun q => (by cases q)⟩
/-- over, in river() -/
def zg_ov (f : Nat → Nat) (s : Nat → Nat) (sd : Nat → Nat) (i p : Nat) : Bool := decide ((sd p + (zy_len (f p) - zg_d (s i) p)) % 2 = 1)
theorem zy_237_21 (hY : zx_lay Y) (hF : zg_F I L f P b n s ps c) {sd : Nat → Nat} (hsd : ∀ p, p < P → I 136 p = nI (sd p) ∧ sd p ≤ 1)
    (hq : zg_an f P b n s c (fun i => zg_al (zg_ov f s sd i) P) (zg_mk I (fun i => zg_al (zg_ov f s sd i) P) n) L Y (fun v M => Qo (some (.int v)) M)) :
    zx_To l E (d + 5) 237 21 [some (.ref 132), some (.int 0), none] [] (I, L, Y) Qo := by
  obtain ⟨⟨hI, hR⟩, -⟩ := id hF
  obtain ⟨hP, h3, h4⟩ := id hI
  obtain ⟨hn, h33, hr⟩ := id hR
  have mI : ∀ J : Nat → Nat → Int32, (∀ a k, a ≠ 149 → J a k = I a k) → zg_I J P f ∧ zg_R J L f P n s c := fun J h =>
    ⟨⟨hP, by rw [h _ _ (by omega)]; exact h3, fun p hp => by rw [h _ _ (by omega)]; exact h4 p hp⟩, zg_R_cong hR (h _ _ (by omega)) (fun k => ⟨h _ _ (by omega), h _ _ (by omega)⟩)⟩
  have st := zy_down (n := n) (P := fun i => zx_To l E (d + 5) 237 21 [some (.ref 132), some (.int (nI i)), none] [] (zg_mk I (fun i => zg_al (zg_ov f s sd i) P) i, L, Y) Qo) ?_ (fun i hi ih => ?_)
  · rw [zg_mk_0] at st; exact st
  · refine sg_237_21 hY _ ⟨fun _ => ?_, fun h1 => absurd (by rw [zg_mk_el (by omega), h33]; exact (nI_leI (by omega) (by omega)).mpr (Nat.le_refl _)) h1⟩
    exact zy_way hY (zg_F_cong hF (fun a k x _ _ => zg_mk_el x)) (fun i hi => zg_mk_at hi) hq
  · have hin : vp_in (nI i) 20000 := vp_in_nI (by omega) (by omega)
    refine sg_237_21 hY _ ⟨fun h1 => ?_, fun _ => ⟨hin, ?_⟩⟩
    · rw [zg_mk_el (by omega), h33, nI_leI (by omega) (by omega)] at h1; omega
    rw [nI_clamp (by omega), show (1 : Int32) = (if zg_al (zg_ov f s sd i) 0 then 1 else 0) from rfl, zl_nar]
    refine zy_down (n := P) (P := fun p => zx_To l E (d + 5) 237 38 [some (.ref 132), some (.int (nI i)), some (.int (nI p))] [] (zx_u2 (zg_mk I (fun i => zg_al (zg_ov f s sd i) P) i) 149 i (if zg_al (zg_ov f s sd i) p then 1 else 0), L, Y) Qo) ?_ (fun p hp ih2 => ?_)
    · refine sg_237_38 hY _ _ ⟨fun _ => ?_, fun h1 => absurd (by rw [zy_u2_na (by omega), zg_mk_el (by omega), h3]; exact (nI_leI (by omega) (by omega)).mpr (Nat.le_refl _)) h1⟩
      have := zg_mk_s (J := I) (W := fun i => zg_al (zg_ov f s sd i) P) (n := i)
      rw [this, nI_1]
      exact ih
    · have hK : ∀ a k, a ≠ 149 → zx_u2 (zg_mk I (fun i => zg_al (zg_ov f s sd i) P) i) 149 i (if zg_al (zg_ov f s sd i) p then 1 else 0) a k = I a k := fun a k ha => by rw [zy_u2_na ha, zg_mk_el ha]
      refine sg_237_38 hY _ _ ⟨fun h1 => ?_, fun _ => ⟨hin, ?_⟩⟩
      · rw [hK _ _ (by omega), h3, nI_leI (by omega) (by omega)] at h1; omega
      obtain ⟨kI, kR⟩ := mI _ hK
      have next : ∀ v : Int32, v = (if zg_al (zg_ov f s sd i) (p + 1) then 1 else 0) → zx_To l E (d + 5) 237 38 [some (.ref 132), some (.int (nI i)), some (.int (nI p + 1))] [] (zx_u2 (zx_u2 (zg_mk I (fun i => zg_al (zg_ov f s sd i) P) i) 149 i (if zg_al (zg_ov f s sd i) p then 1 else 0)) 149 i (vp_nar .boolean v), L, Y) Qo := fun v hv => by
        rw [hv, zl_nar, zy_u2_u2, nI_1]; exact ih2
      rw [nI_clamp (by omega), zy_u2_self, zy_b1, zy_b0]
      refine ⟨fun h => ⟨hin, next 0 (by rw [zg_al, h]; rfl)⟩, fun h => ⟨vp_in_nI (by omega) (by omega), ?_⟩⟩
      refine zy_233 hY kI kR hi hp ⟨hY, ?_⟩
      have l8 := zy_len8 (h4 p hp).2
      obtain ⟨e1, e2⟩ := hsd p hp
      rw [nI_clamp (by omega), hK _ _ (by omega), e1, nI_add, show (2 : Int32) = nI 2 from rfl, pk_rem (by omega) (by omega) (by omega), show (nI ((sd p + (zy_len (f p) - zg_d (s i) p)) % 2) = 1 ↔ (sd p + (zy_len (f p) - zg_d (s i) p)) % 2 = 1) from nI_eq (b := 1) (by omega) (by omega)]
      refine ⟨fun q => ⟨hin, next 0 ?_⟩, fun q => ⟨hin, next 1 ?_⟩⟩
      · rw [zg_al, h, Bool.true_and]
        unfold zg_ov
        rw [decide_eq_false q]; rfl
      · rw [zg_al, h, Bool.true_and]
        unfold zg_ov
        rw [decide_eq_true q]; rfl
end YRh
