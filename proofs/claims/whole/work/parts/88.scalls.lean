/-! ===== search: the reference's calls, behind explores ===== -/
/-- nobody would be answered by two -/
def zg_un (f : Nat → Nat) (P s p : Nat) : Bool := !(decide (0 < zg_d s p)) || decide (zy_cnt (zg_m f P s p) P ≤ 1)
section YRe
variable {l : Launch} {E : zx_E} {d : Nat} {I : Nat → Nat → Int32} {L : Nat → Nat → Int64} {Y : zx_Y} {Qo : Option Value → zx_M → Prop} {Q : Int32 → zx_M → Prop} {Qv : zx_M → Prop} {P n : Nat} {f s c : Nat → Nat} {W : Nat → Bool}
theorem nL_pow1 {P : Nat} (hP : P ≤ 10) : (1 : Int64) <<< ((4 * nI P).toInt64 &&& 63) - 1 = nL (16 ^ P - 1) := by
  have : ∀ p : Fin 11, (1 : Int64) <<< ((4 * nI p.1).toInt64 &&& 63) - 1 = nL (16 ^ p.1 - 1) := by decide
  exact this ⟨P, by omega⟩
/-- a number of dues -/
def zg_du (P : Nat) (x : Int64) : Bool := decide (0 ≤ x.toInt ∧ x.toInt < 16 ^ P)
theorem zg_du_ok {x : Int64} (h : zg_du P x = true) : ∃ s, s < 16 ^ P ∧ x = nL s := by
  unfold zg_du at h
  rw [decide_eq_true_eq] at h
  obtain ⟨m, hm⟩ := Int.eq_ofNat_of_zero_le h.1
  have hb : x.toInt < 2 ^ 63 := Int64.toInt_lt x
  refine ⟨m, ?_, Int64.toInt_inj.mp ?_⟩
  · have := h.2
    rw [hm] at this
    exact Int.ofNat_lt.mp (by rw [Int.natCast_pow]; exact this)
  · rw [nL_toInt (by omega)]; exact hm
theorem zy_232 (hY : zx_lay Y) (hP : P ≤ 10) (h3 : I 132 3 = nI P) {x : Int64} (hq : Q (if zg_du P x then 1 else 0) (I, L, Y)) : zx_Ci l E (d + 1) 232 [.ref 132, .long x] (I, L, Y) Q := by
  refine sg_232_0 hY _ ?_
  rw [h3, nL_pow1 hP]
  have p1 : 0 < 16 ^ P := Nat.pow_pos (by omega)
  have p2 : 16 ^ P ≤ 16 ^ 10 := Nat.pow_le_pow_right (by omega) hP
  have e : decide ((0 : Int64) ≤ x ∧ x ≤ nL (16 ^ P - 1)) = zg_du P x := by
    unfold zg_du
    refine decide_eq_decide.mpr ?_
    rw [Int64.le_iff_toInt_le, Int64.le_iff_toInt_le, nL_toInt (by omega), show (0 : Int64).toInt = 0 by decide]
    refine ⟨fun h => ⟨h.1, ?_⟩, fun h => ⟨h.1, ?_⟩⟩
    · have : ((16 ^ P - 1 : Nat) : Int) < ((16 ^ P : Nat) : Int) := by omega
      rw [Int.natCast_pow] at this
      exact Int.lt_of_le_of_lt h.2 this
    · have h2 := h.2
      have : ((16 ^ P : Nat) : Int) = (16 : Int) ^ P := Int.natCast_pow _ _
      rw [← this] at h2
      omega
  refine zy_167 hY ⟨hY, ?_, _, rfl, ?_⟩
  · rw [e]; cases zg_du P x <;> simp
  · rw [e]; exact hq
theorem zy_239 (hY : zx_lay Y) (hI : zg_I I P f) {s : Nat} (hs : s < 2 ^ 63) (hq : Q (if zg_al (zg_un f P s) P then 1 else 0) (I, L, Y)) : zx_Ci l E (d + 4) 239 [.ref 132, .long (nL s)] (I, L, Y) Q := by
  obtain ⟨hP, h3, h4⟩ := id hI
  refine sg_239_0 hY _ ?_
  have key : ∀ r p, p + r = P → zg_al (zg_un f P s) p = true → zx_To l E (d + 4) 239 2 [some (.ref 132), some (.long (nL s)), none, some (.int (nI p))] [] (I, L, Y) (fun r M' => ∃ v, r = some (.int v) ∧ Q v M') := by
    intro r
    induction r with
    | zero =>
      intro p hp hal
      have ep : p = P := by omega
      subst ep
      rw [hal] at hq
      exact sg_239_2 hY _ _ ⟨fun _ => ⟨_, rfl, hq⟩, fun h1 => absurd (by rw [h3]; exact (nI_leI (by omega) (by omega)).mpr (Nat.le_refl _)) h1⟩
    | succ r ih =>
      intro p hp hal
      have dl := zg_d_lt (s := s) (p := p)
      have cl := zy_cnt_le (p := zg_m f P s p) P
      refine sg_239_2 hY _ _ ⟨fun h1 => ?_, fun _ => zy_219 hY hs (by omega) ⟨hY, ?_⟩⟩
      · rw [h3, nI_leI (by omega) (by omega)] at h1; omega
      rw [zy_le0 (by omega), nI_1]
      refine ⟨fun h => ih (p + 1) (by omega) ?_, fun h => zy_222 hY hI hs (by omega) ⟨hY, zy_266 hY (zy_orN10 _ hP) ⟨hY, ?_⟩⟩⟩
      · rw [zg_al, hal]; unfold zg_un; rw [decide_eq_false (by omega : ¬ 0 < zg_d s p)]; rfl
      rw [zg_pop hP, show (1 : Int32) = nI 1 from rfl, nI_leI (by omega) (by omega)]
      refine ⟨fun h2 => ih (p + 1) (by omega) ?_, fun h2 => ⟨_, rfl, ?_⟩⟩
      · rw [zg_al, hal]; unfold zg_un; rw [decide_eq_true h2, Bool.or_true]; rfl
      · have : zg_al (zg_un f P s) P = false := by
          cases z : zg_al (zg_un f P s) P with
          | false => rfl
          | true =>
            have := (zg_al_iff P).mp z p (by omega)
            unfold zg_un at this
            rw [decide_eq_true (by omega : 0 < zg_d s p), decide_eq_false h2] at this
            cases this
        rw [this] at hq
        exact hq
  exact key P 0 (by omega) rfl
theorem zy_240_25 (hY : zx_lay Y) (hI : zg_I I P f) (hR : zg_R I L f P n s c)
    (hq : Qo (some (.int (nI n))) (zy_ent I [nI (zy_cnt (fun i => zg_al (zg_un f P (s i)) P) n), nI (zy_cnt (fun i => decide (s i = 0)) n)], L, Y)) :
    zx_To l E (d + 5) 240 25 [some (.ref 132), some (.int 0), some (.int 0), some (.int 0)] [] (I, L, Y) Qo := by
  obtain ⟨hn, h33, hr⟩ := hR
  refine zy_down (n := n) (P := fun i => zx_To l E (d + 5) 240 25 [some (.ref 132), some (.int (nI (zy_cnt (fun i => zg_al (zg_un f P (s i)) P) i))), some (.int (nI (zy_cnt (fun i => decide (s i = 0)) i))), some (.int (nI i))] [] (I, L, Y) Qo) ?_ (fun i hi ih => ?_)
  · refine sg_240_25 hY _ _ _ ⟨fun _ => ?_, fun h1 => absurd (by rw [h33]; exact (nI_leI (by omega) (by omega)).mpr (Nat.le_refl _)) h1⟩
    rw [zy_ent_nil]
    refine zy_170 hY (by simp) ⟨hY, zy_170 hY (by simp) ⟨hY, ?_⟩⟩
    dsimp only
    rw [zy_ent_el (by omega), h33]
    exact hq
  · have hin : vp_in (nI i) 20000 := vp_in_nI (by omega) (by omega)
    obtain ⟨-, -, a3, a4, -⟩ := hr i hi
    have s40 := zg_40 hI.1 a4.1
    rw [zy_cnt, zy_cnt] at ih
    refine sg_240_25 hY _ _ _ ⟨fun h1 => ?_, fun _ => ⟨hin, ?_⟩⟩
    · rw [h33, nI_leI (by omega) (by omega)] at h1; omega
    rw [nI_clamp (by omega), a3]
    refine zy_239 hY hI (by omega) ⟨hY, zy_169b hY ⟨hY, hin, ?_⟩⟩
    dsimp only
    rw [a3, show (0 : Int64) = nL 0 from rfl, nL_cmp (by omega) (by omega), nI_add, nI_1]
    refine ⟨fun h => ?_, fun h => ?_⟩
    · rw [show (0 : Int32) = if false then 1 else 0 from rfl]
      refine zy_169b hY ⟨hY, ?_⟩
      rw [nI_add]
      rw [decide_eq_false h] at ih
      exact ih
    · rw [show (1 : Int32) = if true then 1 else 0 from rfl]
      refine zy_169b hY ⟨hY, ?_⟩
      rw [nI_add]
      rw [decide_eq_true h] at ih
      exact ih
/-- the fewest letters lost, then the fewest calls -/
def zg_kl (f : Nat → Nat) (P : Nat) (s c : Nat → Nat) : Nat → Nat := fun i => zg_ls f P (s i) * 128 + c i
theorem zy_236_39 (hY : zx_lay Y) (hI : zg_I I P f) (hR : zg_R I L f P n s c) (hW : ∀ i, i < n → I 149 i = if W i then 1 else 0)
    (h0 : zg_fb W (zg_kl f P s c) n = none → Qo (some (.int (-2))) (I, L, Y)) (h1 : ∀ b, zg_fb W (zg_kl f P s c) n = some b → b < n → Qo (some (.int (nI (zg_ls f P (s b))))) (zy_ent I [nI (c b)], L, Y)) :
    zx_To l E (d + 1) 236 39 [some (.ref 132), none, none, some (.int (-1)), some (.int 0)] [] (I, L, Y) Qo := by
  obtain ⟨hn, h33, hr⟩ := hR
  have l80 : ∀ i, zg_ls f P (s i) ≤ 80 := fun i => zg_ls_80 hI.1 (fun p hp => (hI.2.2 p hp).2)
  refine zy_down (n := n) (P := fun i => zx_To l E (d + 1) 236 39 [some (.ref 132), none, none, some (.int (zg_o (zg_fb W (zg_kl f P s c) i))), some (.int (nI i))] [] (I, L, Y) Qo) ?_ (fun i hi ih => ?_)
  · refine sg_236_39 hY _ _ ⟨fun _ => ?_, fun h1 => absurd (by rw [h33]; exact (nI_leI (by omega) (by omega)).mpr (Nat.le_refl _)) h1⟩
    cases e : zg_fb W (zg_kl f P s c) n with
    | none => exact ⟨fun q => absurd q (by decide), fun _ => h0 e⟩
    | some b =>
      have ok := zg_fb_ok (W := W) (κ := zg_kl f P s c) n
      rw [e] at ok
      have hb := ok.1
      obtain ⟨b1, b2, -, -, b5⟩ := hr b hb
      have hinb : vp_in (nI b) 20000 := vp_in_nI (by omega) (by omega)
      show ((0 : Int32) ≤ nI b → _) ∧ (¬ (0 : Int32) ≤ nI b → _)
      refine ⟨fun _ => ⟨hinb, ?_⟩, fun q => absurd (by rw [← nI_0, nI_leI (by omega) (by omega)]; omega) q⟩
      rw [show zg_o (some b) = nI b from rfl, nI_clamp (by omega), b1, zy_ent_nil]
      refine zy_170 hY (by simp) ⟨hY, hinb, ?_⟩
      dsimp only
      rw [zy_ent_el (by omega), b2]
      exact h1 b e hb
  · have hin : vp_in (nI i) 20000 := vp_in_nI (by omega) (by omega)
    have ok := zg_fb_ok (W := W) (κ := zg_kl f P s c) i
    obtain ⟨a1, a2, -, -, a5⟩ := hr i hi
    have li := l80 i
    rw [zg_fb] at ih
    refine sg_236_39 hY _ _ ⟨fun h1 => ?_, fun _ => ⟨hin, ?_⟩⟩
    · rw [h33, nI_leI (by omega) (by omega)] at h1; omega
    rw [nI_clamp (by omega), hW i hi, zy_b1, zy_b0, nI_1]
    refine ⟨fun h => ?_, fun h => ?_⟩
    · rw [h, if_neg (by decide)] at ih; exact ih
    · rw [h, if_pos rfl] at ih
      cases e : zg_fb W (zg_kl f P s c) i with
      | none =>
        rw [e] at ih
        exact ⟨fun _ => ih, fun q => absurd (by decide : (-1 : Int32) < 0) q⟩
      | some b =>
        rw [e] at ih ok
        dsimp only at ih
        unfold zg_kl at ih
        obtain ⟨o1, o2, o3, o4⟩ := ok
        obtain ⟨b1, b2, -, -, b5⟩ := hr b (by omega)
        have lb := l80 b
        have hinb : vp_in (nI b) 20000 := vp_in_nI (by omega) (by omega)
        have nb : ¬ nI b < 0 := by rw [← nI_0, nI_ltI (by omega) (by omega)]; omega
        show (nI b < 0 → _) ∧ (¬ nI b < 0 → _)
        refine ⟨fun q => absurd q nb, fun _ => ⟨hin, hinb, ?_⟩⟩
        rw [show zg_o (some b) = nI b from rfl, nI_clamp (by omega), a1, a2, b1, b2, nI_ltI (by omega) (by omega), nI_eq (by omega) (by omega), nI_leI (by omega) (by omega)]
        refine ⟨fun q => ?_, fun q => ⟨hin, hinb, fun q2 => ?_, fun q2 => ⟨hin, hinb, fun q3 => ?_, fun q3 => ?_⟩⟩⟩
        · rw [if_pos (by omega)] at ih; exact ih
        · rw [if_neg (by omega)] at ih; exact ih
        · rw [if_neg (by omega)] at ih; exact ih
        · rw [if_pos (by omega)] at ih; exact ih
theorem zy_238_46 (hY : zx_lay Y) (hI : zg_I I P f) (hR : zg_R I L f P n s c) {w m : Nat} (hw : w < P) (hm : m ≤ 8)
    (h0 : zg_fb (fun i => decide (zy_len (f w) - zg_d (s i) w = m)) (zg_kl f P s c) n = none → Qo (some (.int (-2))) (I, L, Y))
    (h1 : ∀ b, zg_fb (fun i => decide (zy_len (f w) - zg_d (s i) w = m)) (zg_kl f P s c) n = some b → b < n → Qo (some (.int (nI (zg_ls f P (s b)) - nI m))) (zy_ent I [nI (c b)], L, Y)) :
    zx_To l E (d + 2) 238 46 [some (.ref 132), some (.int (nI w)), some (.int (nI m)), some (.int (-1)), some (.int 0), none] [] (I, L, Y) Qo := by
  obtain ⟨hn, h33, hr⟩ := id hR
  have l80 : ∀ i, zg_ls f P (s i) ≤ 80 := fun i => zg_ls_80 hI.1 (fun p hp => (hI.2.2 p hp).2)
  have l8 := zy_len8 (hI.2.2 w hw).2
  generalize hW : (fun i => decide (zy_len (f w) - zg_d (s i) w = m)) = W at *
  have hWi : ∀ i, W i = decide (zy_len (f w) - zg_d (s i) w = m) := fun i => by rw [← hW]
  refine zy_down (n := n) (P := fun i => zx_To l E (d + 2) 238 46 [some (.ref 132), some (.int (nI w)), some (.int (nI m)), some (.int (zg_o (zg_fb W (zg_kl f P s c) i))), some (.int (nI i)), none] [] (I, L, Y) Qo) ?_ (fun i hi ih => ?_)
  · refine sg_238_46 hY _ _ _ _ ⟨fun _ => ?_, fun h1 => absurd (by rw [h33]; exact (nI_leI (by omega) (by omega)).mpr (Nat.le_refl _)) h1⟩
    cases e : zg_fb W (zg_kl f P s c) n with
    | none => exact ⟨fun q => absurd q (by decide), fun _ => h0 e⟩
    | some b =>
      have ok := zg_fb_ok (W := W) (κ := zg_kl f P s c) n
      rw [e] at ok
      have hb := ok.1
      obtain ⟨b1, b2, -, -, b5⟩ := hr b hb
      have hinb : vp_in (nI b) 20000 := vp_in_nI (by omega) (by omega)
      show ((0 : Int32) ≤ nI b → _) ∧ (¬ (0 : Int32) ≤ nI b → _)
      refine ⟨fun _ => ⟨hinb, ?_⟩, fun q => absurd (by rw [← nI_0, nI_leI (by omega) (by omega)]; omega) q⟩
      rw [show zg_o (some b) = nI b from rfl, nI_clamp (by omega), b1, zy_ent_nil]
      refine zy_170 hY (by simp) ⟨hY, hinb, ?_⟩
      dsimp only
      rw [zy_ent_el (by omega), b2]
      exact h1 b e hb
  · have hin : vp_in (nI i) 20000 := vp_in_nI (by omega) (by omega)
    have ok := zg_fb_ok (W := W) (κ := zg_kl f P s c) i
    obtain ⟨a1, a2, -, -, a5⟩ := hr i hi
    have li := l80 i
    rw [zg_fb] at ih
    have stay : zx_To l E (d + 2) 238 46 [some (.ref 132), some (.int (nI w)), some (.int (nI m)), some (.int (zg_o (zg_fb W (zg_kl f P s c) i))), some (.int (nI (i + 1))), none] [] (I, L, Y) Qo → zx_To l E (d + 2) 238 122 [some (.ref 132), some (.int (nI w)), some (.int (nI m)), some (.int (zg_o (zg_fb W (zg_kl f P s c) i))), some (.int (nI i)), none] [] (I, L, Y) Qo := fun h =>
      sg_238_122 hY _ _ _ _ (sg_238_123 hY _ _ _ _ _ ⟨fun _ => sg_238_136 hY _ _ _ _ (by rw [nI_1]; exact h), fun q => absurd rfl q⟩)
    have take : zx_To l E (d + 2) 238 46 [some (.ref 132), some (.int (nI w)), some (.int (nI m)), some (.int (nI i)), some (.int (nI (i + 1))), none] [] (I, L, Y) Qo → ∀ v, zx_To l E (d + 2) 238 118 [some (.ref 132), some (.int (nI w)), some (.int (nI m)), some (.int v), some (.int (nI i)), none] [] (I, L, Y) Qo := fun h v =>
      sg_238_118 hY _ _ _ _ (sg_238_123 hY _ _ _ _ _ ⟨fun q => absurd q (by decide), fun _ => sg_238_136 hY _ _ _ _ (by rw [nI_1]; exact h)⟩)
    refine sg_238_46 hY _ _ _ _ ⟨fun h1 => ?_, fun _ => zy_233 hY hI hR hi hw ⟨hY, ?_⟩⟩
    · rw [h33, nI_leI (by omega) (by omega)] at h1; omega
    rw [nI_eq (by omega) (by omega)]
    have hwi := hWi i
    refine ⟨fun h => stay ?_, fun h => ?_⟩
    · rw [decide_eq_false h] at hwi
      rw [hwi, if_neg (by decide)] at ih; exact ih
    · rw [decide_eq_true h] at hwi
      rw [hwi, if_pos rfl] at ih
      cases e : zg_fb W (zg_kl f P s c) i with
      | none =>
        rw [e] at ih
        exact ⟨fun _ => take ih _, fun q => absurd (by decide : (-1 : Int32) < 0) q⟩
      | some b =>
        rw [e] at ih ok stay
        dsimp only at ih
        unfold zg_kl at ih
        obtain ⟨o1, o2, o3, o4⟩ := ok
        obtain ⟨b1, b2, -, -, b5⟩ := hr b (by omega)
        have lb := l80 b
        have hinb : vp_in (nI b) 20000 := vp_in_nI (by omega) (by omega)
        have nb : ¬ nI b < 0 := by rw [← nI_0, nI_ltI (by omega) (by omega)]; omega
        rw [show zg_o (some b) = nI b from rfl] at stay ⊢
        refine ⟨fun q => absurd q nb, fun _ => ⟨hin, hinb, ?_⟩⟩
        dsimp only
        rw [nI_clamp (by omega), nI_clamp (by omega), a1, a2, b1, b2, nI_ltI (by omega) (by omega), nI_eq (by omega) (by omega), nI_leI (by omega) (by omega)]
        refine ⟨fun q => take ?_ _, fun q => ⟨hin, hinb, fun q2 => stay ?_, fun q2 => ⟨hin, hinb, fun q3 => stay ?_, fun q3 => take ?_ _⟩⟩⟩
        · rw [if_pos (by omega)] at ih; exact ih
        · rw [if_neg (by omega)] at ih; exact ih
        · rw [if_neg (by omega)] at ih; exact ih
        · rw [if_pos (by omega)] at ih; exact ih
end YRe
