/-! ===== search: the first best row ===== -/
def zg_fb (W : Nat → Bool) (κ : Nat → Nat) : Nat → Option Nat
  | 0 => none
  | n + 1 => if W n then (match zg_fb W κ n with
    | none => some n
    | some b => if κ n < κ b then some n else some b) else zg_fb W κ n
theorem zg_fb_ok {W : Nat → Bool} {κ : Nat → Nat} : ∀ n, match zg_fb W κ n with
    | none => ∀ i, i < n → W i = false
    | some b => b < n ∧ W b = true ∧ (∀ i, i < n → W i = true → κ b ≤ κ i) ∧ ∀ i, i < b → W i = true → κ b < κ i
  | 0 => fun i hi => by omega
  | n + 1 => by
    have ih := zg_fb_ok (W := W) (κ := κ) n
    rw [zg_fb]
    cases hw : W n with
    | false =>
      rw [if_neg (by decide)]
      cases e : zg_fb W κ n with
      | none =>
        rw [e] at ih
        intro i hi
        by_cases z : i = n
        · rw [z]; exact hw
        · exact ih i (by omega)
      | some b =>
        rw [e] at ih
        obtain ⟨h1, h2, h3, h4⟩ := ih
        refine ⟨by omega, h2, fun i hi hi2 => ?_, h4⟩
        by_cases z : i = n
        · rw [z, hw] at hi2; cases hi2
        · exact h3 i (by omega) hi2
    | true =>
      rw [if_pos rfl]
      cases e : zg_fb W κ n with
      | none =>
        rw [e] at ih
        refine ⟨by omega, hw, fun i hi hi2 => ?_, fun i hi hi2 => ?_⟩
        · by_cases z : i = n
          · rw [z]; exact Nat.le_refl _
          · rw [ih i (by omega)] at hi2; cases hi2
        · rw [ih i (by omega)] at hi2; cases hi2
      | some b =>
        rw [e] at ih
        obtain ⟨h1, h2, h3, h4⟩ := ih
        dsimp only
        by_cases lt : κ n < κ b
        · rw [if_pos lt]
          refine ⟨by omega, hw, fun i hi hi2 => ?_, fun i hi hi2 => ?_⟩
          · by_cases z : i = n
            · rw [z]; exact Nat.le_refl _
            · have := h3 i (by omega) hi2; omega
          · have := h3 i (by omega) hi2; omega
        · rw [if_neg lt]
          refine ⟨by omega, h2, fun i hi hi2 => ?_, h4⟩
          by_cases z : i = n
          · rw [z]; omega
          · exact h3 i (by omega) hi2
def zg_o : Option Nat → Int32
  | none => -1
  | some b => nI b
/-- marks -/
def zg_mk (J : Nat → Nat → Int32) (W : Nat → Bool) (n : Nat) : Nat → Nat → Int32 := fun a k => if a = 149 ∧ k < n then (if W k then 1 else 0) else J a k
theorem zg_mk_el {J : Nat → Nat → Int32} {W : Nat → Bool} {n a k : Nat} (h : a ≠ 149) : zg_mk J W n a k = J a k := by unfold zg_mk; rw [if_neg (fun q => h q.1)]
theorem zg_mk_at {J : Nat → Nat → Int32} {W : Nat → Bool} {n k : Nat} (h : k < n) : zg_mk J W n 149 k = if W k then 1 else 0 := by unfold zg_mk; rw [if_pos ⟨rfl, h⟩]
theorem zg_mk_s {J : Nat → Nat → Int32} {W : Nat → Bool} {n : Nat} : zx_u2 (zg_mk J W n) 149 n (if W n then 1 else 0) = zg_mk J W (n + 1) := by
  funext a k
  unfold zx_u2 zg_mk
  by_cases h : a = 149 ∧ k = n
  · rw [if_pos h, if_pos (show a = 149 ∧ k < n + 1 from ⟨h.1, by omega⟩), h.2]
  · rw [if_neg h]
    by_cases h2 : a = 149 ∧ k < n
    · rw [if_pos h2, if_pos (show a = 149 ∧ k < n + 1 from ⟨h2.1, by omega⟩)]
    · rw [if_neg h2, if_neg (fun q => by
        by_cases z : k = n
        · exact h ⟨q.1, z⟩
        · exact h2 ⟨q.1, by omega⟩)]
theorem zg_mk_0 {J : Nat → Nat → Int32} {W : Nat → Bool} : zg_mk J W 0 = J := by
  funext a k
  unfold zg_mk
  rw [if_neg (by omega)]
/-- the rows of a table -/
def zg_R (J : Nat → Nat → Int32) (K : Nat → Nat → Int64) (f : Nat → Nat) (P n : Nat) (s c : Nat → Nat) : Prop :=
  n ≤ 20000 ∧ J 132 33 = nI n ∧ ∀ i, i < n → J 146 i = nI (c i) ∧ J 147 i = nI (zg_ls f P (s i)) ∧ K 145 i = nL (s i) ∧ zg_S f P (s i) ∧ c i ≤ zg_ls f P (s i)
theorem zg_V_R {I0 J : Nat → Nat → Int32} {L0 K : Nat → Nat → Int64} {f : Nat → Nat} {P b n a j : Nat} {s ps c : Nat → Nat} (h : zg_V I0 L0 f P b J K n s ps c a j) : zg_R J K f P n s c := ⟨h.1.1, h.1.2.1, h.2.1⟩
theorem zg_R_cong {J J' : Nat → Nat → Int32} {K : Nat → Nat → Int64} {f : Nat → Nat} {P n : Nat} {s c : Nat → Nat} (h : zg_R J K f P n s c) (h1 : J' 132 33 = J 132 33) (h2 : ∀ k, J' 146 k = J 146 k ∧ J' 147 k = J 147 k) : zg_R J' K f P n s c :=
  ⟨h.1, by rw [h1]; exact h.2.1, fun i hi => by rw [(h2 i).1, (h2 i).2]; exact h.2.2 i hi⟩
theorem zg_ls_80 {f : Nat → Nat} {P s : Nat} (hP : P ≤ 10) (hf : ∀ p, p < P → f p < 5764801) : zg_ls f P s ≤ 80 := by
  have key : ∀ n, n ≤ P → zg_sm (fun p => zy_len (f p) - zg_d s p) n ≤ 8 * n := by
    intro n
    induction n with
    | zero => exact fun _ => Nat.le_refl _
    | succ n ih =>
      intro hn
      have := ih (by omega)
      have := zy_len8 (hf n (by omega))
      rw [zg_sm]; omega
  have := key P (Nat.le_refl _)
  unfold zg_ls; omega
section YRd
variable {l : Launch} {E : zx_E} {d : Nat} {I : Nat → Nat → Int32} {L : Nat → Nat → Int64} {Y : zx_Y} {Qo : Option Value → zx_M → Prop} {Q : Int32 → zx_M → Prop} {Qv : zx_M → Prop} {P n : Nat} {f s c : Nat → Nat} {W : Nat → Bool}
theorem zy_227 (hY : zx_lay Y) (hI : zg_I I P f) (hR : zg_R I L f P n s c) (hW : ∀ i, i < n → I 149 i = if W i then 1 else 0) (hq : Q (zg_o (zg_fb W (fun i => c i * 128 + zg_ls f P (s i)) n)) (I, L, Y)) : zx_Ci l E d 227 [.ref 132] (I, L, Y) Q := by
  obtain ⟨hn, h33, hr⟩ := hR
  have l80 : ∀ i, zg_ls f P (s i) ≤ 80 := fun i => zg_ls_80 hI.1 (fun p hp => (hI.2.2 p hp).2)
  refine sg_227_0 hY ?_
  refine zy_down (n := n) (P := fun i => zx_To l E d 227 4 [some (.ref 132), some (.int (zg_o (zg_fb W (fun i => c i * 128 + zg_ls f P (s i)) i))), some (.int (nI i)), none] [] (I, L, Y) _) ?_ (fun i hi ih => ?_)
  · exact sg_227_4 hY _ _ ⟨fun _ => ⟨_, rfl, hq⟩, fun h1 => absurd (by rw [h33]; exact (nI_leI (by omega) (by omega)).mpr (Nat.le_refl _)) h1⟩
  · have hin : vp_in (nI i) 20000 := vp_in_nI (by omega) (by omega)
    have ok := zg_fb_ok (W := W) (κ := fun i => c i * 128 + zg_ls f P (s i)) i
    obtain ⟨a1, a2, -, -, a5⟩ := hr i hi
    have li := l80 i
    rw [zg_fb] at ih
    refine sg_227_4 hY _ _ ⟨fun h1 => ?_, fun _ => ⟨hin, ?_⟩⟩
    · rw [h33, nI_leI (by omega) (by omega)] at h1; omega
    rw [nI_clamp (by omega), hW i hi, zy_b1, zy_b0, nI_1]
    refine ⟨fun h => ⟨fun _ => ?_, fun q => absurd rfl q⟩, fun h => ?_⟩
    · rw [h, if_neg (by decide)] at ih; exact ih
    · rw [h, if_pos rfl] at ih
      cases e : zg_fb W (fun i => c i * 128 + zg_ls f P (s i)) i with
      | none =>
        rw [e] at ih
        exact ⟨fun _ => ⟨fun q => absurd q (by decide), fun _ => ih⟩, fun q => absurd (by decide : (-1 : Int32) < 0) q⟩
      | some b =>
        rw [e] at ih ok
        dsimp only at ih
        obtain ⟨o1, o2, o3, o4⟩ := ok
        obtain ⟨b1, b2, -, -, b5⟩ := hr b (by omega)
        have lb := l80 b
        have hinb : vp_in (nI b) 20000 := vp_in_nI (by omega) (by omega)
        have nb : ¬ nI b < 0 := by rw [← nI_0, nI_ltI (by omega) (by omega)]; omega
        show (nI b < 0 → _) ∧ (¬ nI b < 0 → _)
        refine ⟨fun q => absurd q nb, fun _ => ⟨hin, hinb, ?_⟩⟩
        rw [show zg_o (some b) = nI b from rfl, nI_clamp (by omega), a1, a2, b1, b2, nI_ltI (by omega) (by omega), nI_eq (by omega) (by omega), nI_leI (by omega) (by omega)]
        refine ⟨fun q => ⟨fun z => absurd z (by decide), fun _ => ?_⟩, fun q => ⟨hin, hinb, fun q2 => ⟨fun _ => ?_, fun z => absurd rfl z⟩, fun q2 => ⟨hin, hinb, fun q3 => ⟨fun _ => ?_, fun z => absurd rfl z⟩, fun q3 => ⟨fun z => absurd z (by decide), fun _ => ?_⟩⟩⟩⟩
        · rw [if_pos (by omega)] at ih; exact ih
        · rw [if_neg (by omega)] at ih; exact ih
        · rw [if_neg (by omega)] at ih; exact ih
        · rw [if_pos (by omega)] at ih; exact ih
theorem zy_233 (hY : zx_lay Y) (hI : zg_I I P f) (hR : zg_R I L f P n s c) {i p : Nat} (hi : i < n) (hp : p < P) (hq : Q (nI (zy_len (f p) - zg_d (s i) p)) (I, L, Y)) : zx_Ci l E (d + 1) 233 [.ref 132, .int (nI i), .int (nI p)] (I, L, Y) Q := by
  obtain ⟨hP, h3, h4⟩ := hI
  obtain ⟨hn, h33, hr⟩ := hR
  obtain ⟨-, -, a3, a4, -⟩ := hr i hi
  obtain ⟨e, hf⟩ := h4 p hp
  have l8 := zy_len8 hf
  have s40 := zg_40 hP a4.1
  refine sg_233_0 hY _ _ ⟨vp_in_nI (by omega) (by omega), ?_⟩
  rw [nI_clamp (by omega), e]
  refine zy_171 hY (by omega) ⟨hY, vp_in_nI (by omega) (by omega), ?_⟩
  rw [nI_clamp (by omega)]
  dsimp only
  rw [a3]
  refine zy_219 hY (by omega) (by omega) ⟨hY, ?_⟩
  rw [zy_sub_nI (a4.2 p hp) (by omega)]
  exact ⟨_, rfl, hq⟩
/-- the first p people agree -/
def zg_al (w : Nat → Bool) : Nat → Bool
  | 0 => true
  | p + 1 => zg_al w p && w p
theorem zg_al_iff {w : Nat → Bool} : ∀ p, zg_al w p = true ↔ ∀ q, q < p → w q = true
  | 0 => ⟨fun _ q hq => by omega, fun _ => rfl⟩
  | p + 1 => by
    rw [zg_al, Bool.and_eq_true, zg_al_iff p]
    constructor
    · rintro ⟨a, b⟩ q hq
      by_cases e : q = p
      · rw [e]; exact b
      · exact a q (by omega)
    · exact fun h => ⟨fun q hq => h q (by omega), h p (by omega)⟩
def zg_due (f : Nat → Nat) (s : Nat → Nat) (x i p : Nat) : Bool := decide (zg_d x p ≤ zy_len (f p) - zg_d (s i) p)
theorem zy_234 (hY : zx_lay Y) (hI : zg_I I P f) (hR : zg_R I L f P n s c) {x : Nat} (hx : x < 2 ^ 63) (hq : Qv (zg_mk I (fun i => zg_al (zg_due f s x i) P) n, L, Y)) : zx_Cv l E (d + 2) 234 [.ref 132, .long (nL x)] (I, L, Y) Qv := by
  obtain ⟨hP, h3, h4⟩ := id hI
  obtain ⟨hn, h33, hr⟩ := id hR
  have mI : ∀ J : Nat → Nat → Int32, (∀ a k, a ≠ 149 → J a k = I a k) → zg_I J P f ∧ zg_R J L f P n s c := fun J h =>
    ⟨⟨hP, by rw [h _ _ (by omega)]; exact h3, fun p hp => by rw [h _ _ (by omega)]; exact h4 p hp⟩, zg_R_cong hR (h _ _ (by omega)) (fun k => ⟨h _ _ (by omega), h _ _ (by omega)⟩)⟩
  refine sg_234_0 hY _ ?_
  have st := zy_down (n := n) (P := fun i => zx_To l E (d + 2) 234 2 [some (.ref 132), some (.long (nL x)), none, some (.int (nI i)), none] [] (zg_mk I (fun i => zg_al (zg_due f s x i) P) i, L, Y) (fun r M' => r = none ∧ Qv M')) ?_ (fun i hi ih => ?_)
  · rw [zg_mk_0] at st; exact st
  · refine sg_234_2 hY _ _ ⟨fun _ => ⟨rfl, hq⟩, fun h1 => absurd (by rw [zg_mk_el (by omega), h33]; exact (nI_leI (by omega) (by omega)).mpr (Nat.le_refl _)) h1⟩
  · have hin : vp_in (nI i) 20000 := vp_in_nI (by omega) (by omega)
    refine sg_234_2 hY _ _ ⟨fun h1 => ?_, fun _ => ⟨hin, ?_⟩⟩
    · rw [zg_mk_el (by omega), h33, nI_leI (by omega) (by omega)] at h1; omega
    rw [nI_clamp (by omega), show (1 : Int32) = (if zg_al (zg_due f s x i) 0 then 1 else 0) from rfl, zl_nar]
    refine zy_down (n := P) (P := fun p => zx_To l E (d + 2) 234 20 [some (.ref 132), some (.long (nL x)), none, some (.int (nI i)), some (.int (nI p))] [] (zx_u2 (zg_mk I (fun i => zg_al (zg_due f s x i) P) i) 149 i (if zg_al (zg_due f s x i) p then 1 else 0), L, Y) _) ?_ (fun p hp ih2 => ?_)
    · refine sg_234_20 hY _ _ _ ⟨fun _ => ?_, fun h1 => absurd (by rw [zy_u2_na (by omega), zg_mk_el (by omega), h3]; exact (nI_leI (by omega) (by omega)).mpr (Nat.le_refl _)) h1⟩
      have := zg_mk_s (J := I) (W := fun i => zg_al (zg_due f s x i) P) (n := i)
      rw [this, nI_1]
      exact ih
    · have hK : ∀ a k, a ≠ 149 → zx_u2 (zg_mk I (fun i => zg_al (zg_due f s x i) P) i) 149 i (if zg_al (zg_due f s x i) p then 1 else 0) a k = I a k := fun a k ha => by rw [zy_u2_na ha, zg_mk_el ha]
      refine sg_234_20 hY _ _ _ ⟨fun h1 => ?_, fun _ => ⟨hin, ?_⟩⟩
      · rw [hK _ _ (by omega), h3, nI_leI (by omega) (by omega)] at h1; omega
      obtain ⟨kI, kR⟩ := mI _ hK
      have next : ∀ v : Int32, v = (if zg_al (zg_due f s x i) (p + 1) then 1 else 0) → zx_To l E (d + 2) 234 20 [some (.ref 132), some (.long (nL x)), none, some (.int (nI i)), some (.int (nI p + 1))] [] (zx_u2 (zx_u2 (zg_mk I (fun i => zg_al (zg_due f s x i) P) i) 149 i (if zg_al (zg_due f s x i) p then 1 else 0)) 149 i (vp_nar .boolean v), L, Y) (fun r M' => r = none ∧ Qv M') := fun v hv => by
        rw [hv, zl_nar, zy_u2_u2, nI_1]; exact ih2
      rw [nI_clamp (by omega), zy_u2_self, zy_b1, zy_b0]
      refine ⟨fun h => ⟨hin, next 0 (by rw [zg_al, h]; rfl)⟩, fun h => ?_⟩
      refine zy_233 hY kI kR hi hp ⟨hY, zy_231 hY hx (by omega) ⟨hY, ?_⟩⟩
      have d1 := zg_d_lt (s := x) (p := p)
      have l8 := zy_len8 (h4 p hp).2
      rw [nI_ltI (by omega) (by omega)]
      refine ⟨fun q => ⟨hin, next 0 ?_⟩, fun q => ⟨hin, next 1 ?_⟩⟩
      · rw [zg_al, h, Bool.true_and]
        unfold zg_due
        rw [decide_eq_false (by omega)]; rfl
      · rw [zg_al, h, Bool.true_and]
        unfold zg_due
        rw [decide_eq_true (by omega)]; rfl
end YRd
