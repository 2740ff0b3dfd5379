/-! ===== what a listener knows: the class ===== -/
def zl_C (I : Nat → Nat → Int32) (hc : Nat → Nat) (ha : Nat → Bool) (m w : Nat) : Prop := (m ≤ 40 ∧ I 117 2 = nI m) ∧ (1 ≤ w ∧ w ≤ 6 ∧ I 117 3 = nI w) ∧ ∀ t, t < m → I 118 t = nI (hc t) ∧ hc t < 5764801 ∧ I 119 t = (if ha t then 1 else 0)
def zl_D (I : Nat → Nat → Int32) (hc : Nat → Nat) (ha : Nat → Bool) (m w : Nat) : Prop := (m ≤ 40 ∧ I 132 37 = nI m) ∧ (1 ≤ w ∧ w ≤ 6 ∧ I 132 36 = nI w) ∧ ∀ t, t < m → I 151 t = nI (hc t) ∧ hc t < 5764801 ∧ I 152 t = (if ha t then 1 else 0)
def zl_fa (hc : Nat → Nat) (ha : Nat → Bool) : Nat → Nat → Nat
  | 0, _ => 0
  | n + 1, t => if ha t then hc t else zl_fa hc ha n (t + 1)
theorem zl_fa_ok {hc : Nat → Nat} {ha : Nat → Bool} : ∀ n t, ((∀ s, t ≤ s → s < t + n → ha s = false) ∧ zl_fa hc ha n t = 0) ∨ ∃ t0, t ≤ t0 ∧ t0 < t + n ∧ (∀ s, t ≤ s → s < t0 → ha s = false) ∧ ha t0 = true ∧ zl_fa hc ha n t = hc t0
  | 0, t => Or.inl ⟨fun s a b => by omega, rfl⟩
  | n + 1, t => by
    rw [zl_fa]
    cases hz : ha t with
    | true => exact Or.inr ⟨t, Nat.le_refl _, by omega, fun s a b => by omega, hz, by rw [if_pos rfl]⟩
    | false =>
      rw [if_neg (by decide)]
      rcases zl_fa_ok (hc := hc) (ha := ha) n (t + 1) with ⟨h1, h2⟩ | ⟨t0, a1, a2, a3, a4, a5⟩
      · refine Or.inl ⟨fun s a b => ?_, h2⟩
        by_cases e : s = t
        · rw [e]; exact hz
        · exact h1 s (by omega) (by omega)
      · refine Or.inr ⟨t0, by omega, by omega, fun s a b => ?_, a4, a5⟩
        by_cases e : s = t
        · rw [e]; exact hz
        · exact a3 s (by omega) b
def zl_fh (hc : Nat → Nat) (c : Nat) : Nat → Nat → Nat
  | 0, t => t
  | n + 1, t => if hc t = c then t else zl_fh hc c n (t + 1)
theorem zl_fh_ok {hc : Nat → Nat} {c : Nat} : ∀ n t, t ≤ zl_fh hc c n t ∧ zl_fh hc c n t ≤ t + n ∧ (∀ s, t ≤ s → s < zl_fh hc c n t → hc s ≠ c) ∧ (zl_fh hc c n t < t + n → hc (zl_fh hc c n t) = c)
  | 0, t => ⟨Nat.le_refl _, Nat.le_refl _, fun s a b => by rw [zl_fh] at b; omega, fun h => by rw [zl_fh] at h; omega⟩
  | n + 1, t => by
    rw [zl_fh]
    by_cases e : hc t = c
    · rw [if_pos e]; exact ⟨Nat.le_refl _, by omega, fun s a b => by omega, fun _ => e⟩
    · rw [if_neg e]
      obtain ⟨h1, h2, h3, h4⟩ := zl_fh_ok (hc := hc) (c := c) n (t + 1)
      refine ⟨by omega, by omega, fun s a b => ?_, fun h => h4 (by omega)⟩
      by_cases e2 : s = t
      · rw [e2]; exact e
      · exact h3 s (by omega) b
section YLi
variable {l : Launch} {E : zx_E} {d : Nat} {I : Nat → Nat → Int32} {L : Nat → Nat → Int64} {Y : zx_Y} {Qo : Option Value → zx_M → Prop} {Q : Int32 → zx_M → Prop} {Qv : zx_M → Prop} {hc : Nat → Nat} {ha : Nat → Bool} {m w : Nat}
theorem zy_c41 (hY : zx_lay Y) (hC : zl_C I hc ha m w) {c : Nat} (hc31 : c < 2 ^ 31) (hq : Q (zo_be (zl_hb hc ha m 0 c)) (I, L, Y)) : zx_Ci l E d 41 [.ref 117, .int (nI c)] (I, L, Y) Q := by
  obtain ⟨⟨m1, m2⟩, ⟨w1, w2, w3⟩, hh⟩ := hC
  have loop : ∀ n t c, n + t = m → c < 2 ^ 31 → Q (zo_be (zl_hb hc ha n t c)) (I, L, Y) → zx_To l E d 41 4 [some (.ref 117), none, some (.int (nI c)), some (.int (nI t)), none] [] (I, L, Y) (fun r M' => ∃ v, r = some (.int v) ∧ Q v M') := by
    intro n
    induction n with
    | zero =>
      intro t c ht h31 hq
      refine sg_41_4 hY _ _ ⟨fun _ => ⟨_, rfl, hq⟩, fun h => absurd ?_ h⟩
      rw [m2]; exact nI_le (by omega) (by omega)
    | succ n ih =>
      intro t c ht h31 hq
      obtain ⟨h1, h2, h3⟩ := hh t (by omega)
      have hv := vp_in_nI (n := t) (N := 40) (by omega) (by omega)
      rw [zl_hb] at hq
      refine sg_41_4 hY _ _ ⟨fun h => ?_, fun _ => ⟨hv, ?_⟩⟩
      · rw [m2] at h
        exact absurd ((nI_leI (by omega) (by omega)).mp h) (by omega)
      · rw [nI_clamp (by omega), h1, h3, nI_eq (by omega) (by omega), nI_1, zy_d7 h31]
        refine ⟨fun h => ⟨hv, fun h2 => ⟨fun _ => ?_, fun h => absurd rfl h⟩, fun h2 => ⟨_, rfl, ?_⟩⟩, fun h => ⟨hv, fun h2 => ⟨fun h => absurd h (by decide), fun _ => ?_⟩, fun h2 => ⟨_, rfl, ?_⟩⟩⟩
        · have hf : ha t = false := by
            cases hz : ha t with
            | false => rfl
            | true => rw [hz] at h2; exact absurd h2 (by decide)
          rw [decide_eq_false h, hf, if_pos rfl, if_neg h] at hq
          exact ih (t + 1) c (by omega) h31 hq
        · have hf : ha t = true := by
            cases hz : ha t with
            | true => rfl
            | false => rw [hz] at h2; exact absurd rfl h2
          rw [decide_eq_false h, hf, if_neg (by decide)] at hq
          exact hq
        · have hf : ha t = true := by
            cases hz : ha t with
            | true => rfl
            | false => rw [hz] at h2; exact absurd h2 (by decide)
          rw [decide_eq_true h, hf, if_pos rfl, if_pos h] at hq
          exact ih (t + 1) (c / 7) (by omega) (by omega) hq
        · have hf : ha t = false := by
            cases hz : ha t with
            | false => rfl
            | true => rw [hz] at h2; exact absurd rfl h2
          rw [decide_eq_true h, hf, if_neg (by decide)] at hq
          exact hq
  exact sg_41_0 hY _ (loop m 0 c (by omega) hc31 hq)
theorem zy_248 (hY : zx_lay Y) (hC : zl_D I hc ha m w) {c : Nat} (hc31 : c < 2 ^ 31) (hq : Q (zo_be (zl_hb hc ha m 0 c)) (I, L, Y)) : zx_Ci l E d 248 [.ref 132, .int (nI c)] (I, L, Y) Q := by
  obtain ⟨⟨m1, m2⟩, ⟨w1, w2, w3⟩, hh⟩ := hC
  have loop : ∀ n t c, n + t = m → c < 2 ^ 31 → Q (zo_be (zl_hb hc ha n t c)) (I, L, Y) → zx_To l E d 248 4 [some (.ref 132), none, some (.int (nI c)), some (.int (nI t)), none] [] (I, L, Y) (fun r M' => ∃ v, r = some (.int v) ∧ Q v M') := by
    intro n
    induction n with
    | zero =>
      intro t c ht h31 hq
      refine sg_248_4 hY _ _ ⟨fun _ => ⟨_, rfl, hq⟩, fun h => absurd ?_ h⟩
      rw [m2]; exact nI_le (by omega) (by omega)
    | succ n ih =>
      intro t c ht h31 hq
      obtain ⟨h1, h2, h3⟩ := hh t (by omega)
      have hv := vp_in_nI (n := t) (N := 40) (by omega) (by omega)
      rw [zl_hb] at hq
      refine sg_248_4 hY _ _ ⟨fun h => ?_, fun _ => ⟨hv, ?_⟩⟩
      · rw [m2] at h
        exact absurd ((nI_leI (by omega) (by omega)).mp h) (by omega)
      · rw [nI_clamp (by omega), h1, h3, nI_eq (by omega) (by omega), nI_1, zy_d7 h31]
        refine ⟨fun h => ⟨hv, fun h2 => ⟨fun _ => ?_, fun h => absurd rfl h⟩, fun h2 => ⟨_, rfl, ?_⟩⟩, fun h => ⟨hv, fun h2 => ⟨fun h => absurd h (by decide), fun _ => ?_⟩, fun h2 => ⟨_, rfl, ?_⟩⟩⟩
        · have hf : ha t = false := by
            cases hz : ha t with
            | false => rfl
            | true => rw [hz] at h2; exact absurd h2 (by decide)
          rw [decide_eq_false h, hf, if_pos rfl, if_neg h] at hq
          exact ih (t + 1) c (by omega) h31 hq
        · have hf : ha t = true := by
            cases hz : ha t with
            | true => rfl
            | false => rw [hz] at h2; exact absurd rfl h2
          rw [decide_eq_false h, hf, if_neg (by decide)] at hq
          exact hq
        · have hf : ha t = true := by
            cases hz : ha t with
            | true => rfl
            | false => rw [hz] at h2; exact absurd h2 (by decide)
          rw [decide_eq_true h, hf, if_pos rfl, if_pos h] at hq
          exact ih (t + 1) (c / 7) (by omega) (by omega) hq
        · have hf : ha t = false := by
            cases hz : ha t with
            | false => rfl
            | true => rw [hz] at h2; exact absurd rfl h2
          rw [decide_eq_true h, hf, if_neg (by decide)] at hq
          exact hq
  exact sg_248_0 hY _ (loop m 0 c (by omega) hc31 hq)
theorem zy_c42 (hY : zx_lay Y) (hC : zl_C I hc ha m w) (hq : Q (nI (zl_fa hc ha m 0)) (I, L, Y)) : zx_Ci l E d 42 [.ref 117] (I, L, Y) Q := by
  obtain ⟨⟨m1, m2⟩, ⟨w1, w2, w3⟩, hh⟩ := hC
  have loop : ∀ n t, n + t = m → Q (nI (zl_fa hc ha n t)) (I, L, Y) → zx_To l E d 42 2 [some (.ref 117), some (.int (nI t))] [] (I, L, Y) (fun r M' => ∃ v, r = some (.int v) ∧ Q v M') := by
    intro n
    induction n with
    | zero =>
      intro t ht hq
      refine sg_42_2 hY _ ⟨fun _ => ⟨_, rfl, hq⟩, fun h => absurd ?_ h⟩
      rw [m2]; exact nI_le (by omega) (by omega)
    | succ n ih =>
      intro t ht hq
      obtain ⟨h1, h2, h3⟩ := hh t (by omega)
      have hv := vp_in_nI (n := t) (N := 40) (by omega) (by omega)
      rw [zl_fa] at hq
      refine sg_42_2 hY _ ⟨fun h => ?_, fun _ => ⟨hv, ?_⟩⟩
      · rw [m2] at h
        exact absurd ((nI_leI (by omega) (by omega)).mp h) (by omega)
      · rw [nI_clamp (by omega), h1, h3, nI_1, zy_b0]
        refine ⟨fun h => ?_, fun h => ⟨hv, _, rfl, ?_⟩⟩
        · rw [h, if_neg (by decide)] at hq
          exact ih (t + 1) (by omega) hq
        · have : ha t = true := by simpa using h
          rw [this, if_pos rfl] at hq
          exact hq
  exact sg_42_0 hY (loop m 0 (by omega) hq)
theorem zy_c43 (hY : zx_lay Y) (hC : zl_C I hc ha m w) {c : Nat} (hc31 : c < 2 ^ 31) (hq : Q (nI (zl_fh hc c m 0)) (I, L, Y)) : zx_Ci l E d 43 [.ref 117, .int (nI c)] (I, L, Y) Q := by
  obtain ⟨⟨m1, m2⟩, ⟨w1, w2, w3⟩, hh⟩ := hC
  have loop : ∀ n t, n + t = m → Q (nI (zl_fh hc c n t)) (I, L, Y) → zx_To l E d 43 2 [some (.ref 117), some (.int (nI c)), some (.int (nI t))] [] (I, L, Y) (fun r M' => ∃ v, r = some (.int v) ∧ Q v M') := by
    intro n
    induction n with
    | zero =>
      intro t ht hq
      refine sg_43_2 hY _ _ ⟨fun _ => ⟨_, rfl, ?_⟩, fun h => absurd ?_ h⟩
      · rw [m2, show m = t by omega]; exact hq
      · rw [m2]; exact nI_le (by omega) (by omega)
    | succ n ih =>
      intro t ht hq
      obtain ⟨h1, h2, h3⟩ := hh t (by omega)
      have hv := vp_in_nI (n := t) (N := 40) (by omega) (by omega)
      rw [zl_fh] at hq
      refine sg_43_2 hY _ _ ⟨fun h => ?_, fun _ => ⟨hv, ?_⟩⟩
      · rw [m2] at h
        exact absurd ((nI_leI (by omega) (by omega)).mp h) (by omega)
      · rw [nI_clamp (by omega), h1, nI_1, nI_eq (by omega) (by omega)]
        refine ⟨fun h => ?_, fun h => ⟨_, rfl, ?_⟩⟩
        · rw [if_neg h] at hq
          exact ih (t + 1) (by omega) hq
        · rw [if_pos h] at hq
          exact hq
  exact sg_43_0 hY _ (loop m 0 (by omega) hq)
theorem zy_c44 (hY : zx_lay Y) (hC : zl_C I hc ha m w) {c : Nat} (hc31 : c < 2 ^ 31) (hq : Q (if zl_wi w 5 c then 1 else 0) (I, L, Y)) : zx_Ci l E d 44 [.ref 117, .int (nI c)] (I, L, Y) Q := by
  obtain ⟨-, ⟨w1, w2, w3⟩, -⟩ := hC
  have loop : ∀ f c, f ≤ 5 → c < 2 ^ 31 → Q (if zl_wi w f c then 1 else 0) (I, L, Y) → zx_To l E d 44 4 [some (.ref 117), none, some (.int (nI c)), some (.int (nI (5 - f)))] [] (I, L, Y) (fun r M' => ∃ v, r = some (.int v) ∧ Q v M') := by
    intro f
    induction f with
    | zero =>
      intro c _ h31 hq
      rw [zl_wi] at hq
      refine sg_44_4 hY _ _ ⟨fun _ => ?_, fun h => absurd (by decide) h⟩
      rw [zy_eq0 h31]
      refine ⟨fun h => ⟨_, rfl, ?_⟩, fun h => ⟨_, rfl, ?_⟩⟩
      · rw [decide_eq_false h] at hq; exact hq
      · rw [decide_eq_true h] at hq; exact hq
    | succ f ih =>
      intro c hf h31 hq
      rw [zl_wi] at hq
      refine sg_44_4 hY _ _ ⟨fun h => absurd ((nI_leI (a := 5) (by omega) (by omega)).mp h) (by omega), fun _ => ?_⟩
      rw [zy_le0 h31, zy_eq0 h31, zy_r7 h31, w3, nI_leI (by omega) (by omega), zy_d7 h31, nI_1]
      refine ⟨fun h => ⟨fun h2 => absurd h h2, fun _ => ⟨_, rfl, ?_⟩⟩, fun h => ⟨fun h2 => ?_, fun h2 => ⟨_, rfl, ?_⟩⟩⟩
      · rw [if_pos h] at hq; exact hq
      · rw [if_neg h, decide_eq_true h2, Bool.true_and] at hq
        have := ih (c / 7) (by omega) (by omega) hq
        rw [show 5 - (f + 1) + 1 = 5 - f by omega]
        exact this
      · rw [if_neg h, decide_eq_false h2, Bool.false_and] at hq
        exact hq
  exact sg_44_0 hY _ (loop 5 c (Nat.le_refl _) hc31 hq)
theorem zy_c45 (hY : zx_lay Y) (hC : zl_C I hc ha m w) {c : Nat} (hc5 : c < 16807) (hq : Q (nI (zl_fo w 5 c)) (I, L, Y)) : zx_Ci l E d 45 [.ref 117, .int (nI c)] (I, L, Y) Q := by
  obtain ⟨-, ⟨w1, w2, w3⟩, -⟩ := hC
  have loop : ∀ f j a b, f + j = 5 → b < 7 ^ j → 7 ^ j * a + b < 16807 → Q (nI (7 ^ j * zl_fo w f a + b)) (I, L, Y) → zx_To l E d 45 7 [some (.ref 117), none, some (.int (nI (7 ^ j * a + b))), some (.int (nI (7 ^ j))), some (.int (nI j)), none] [] (I, L, Y) (fun r M' => ∃ v, r = some (.int v) ∧ Q v M') := by
    intro f
    induction f with
    | zero =>
      intro j a b hj hb hlt hq
      have ej : j = 5 := by omega
      subst ej
      exact sg_45_7 hY _ _ _ ⟨fun _ => ⟨_, rfl, hq⟩, fun h => absurd (by decide) h⟩
    | succ f ih =>
      intro j a b hj hb hlt hq
      have hp0 : 0 < 7 ^ j := Nat.pow_pos (by omega)
      have hp5 : 7 ^ j ≤ 2401 := Nat.le_trans (Nat.pow_le_pow_right (by omega) (show j ≤ 4 by omega)) (by decide)
      have ediv : (7 ^ j * a + b) / 7 ^ j = a := by rw [Nat.mul_add_div hp0, Nat.div_eq_of_lt hb]; rfl
      have ha2 : a ≤ 7 ^ j * a := Nat.le_mul_of_pos_left a hp0
      have hps : (7 : Nat) ^ (j + 1) = 7 ^ j * 7 := Nat.pow_succ ..
      rw [zl_fo] at hq
      refine sg_45_7 hY _ _ _ ⟨fun h => absurd ((nI_leI (a := 5) (by omega) (by omega)).mp h) (by omega), fun _ => ⟨fun h => absurd ((zy_eq0 (by omega)).mp h) (by omega), ?_⟩⟩
      rw [pk_div (a := 7 ^ j * a + b) (by omega) hp0 (by omega), ediv, zy_r7 (by omega), w3, nI_leI (by omega) (by omega), nI_1]
      refine ⟨fun h => ?_, fun h => ⟨_, rfl, ?_⟩⟩
      · rw [if_neg (by omega)] at hq
        have e1 : nI (a % 7) - 1 = nI (a % 7 - 1) := pk_sub (a := a % 7) (b := 1) (by omega)
        have e2 : 7 ^ j * a = 7 ^ j * (a % 7 - 1) + 7 ^ j * (7 * (a / 7) + 1) := by rw [← Nat.mul_add]; congr 1; omega
        have e3 : 7 ^ j * (7 * (a / 7) + 1) = 7 ^ (j + 1) * (a / 7) + 7 ^ j := by rw [hps, Nat.mul_add, Nat.mul_one, Nat.mul_assoc]
        rw [e1, pk_mul, Nat.mul_comm (a % 7 - 1), pk_sub (by omega), show (7 : Int32) = nI 7 by decide, pk_mul, ← hps, show 7 ^ j * a + b - 7 ^ j * (a % 7 - 1) = 7 ^ (j + 1) * (a / 7) + (7 ^ j + b) by omega]
        refine ih (j + 1) (a / 7) (7 ^ j + b) (by omega) (by omega) (by omega) ?_
        rw [show 7 ^ (j + 1) * zl_fo w f (a / 7) + (7 ^ j + b) = 7 ^ j * (7 * zl_fo w f (a / 7) + 1) + b by rw [hps, Nat.mul_add, Nat.mul_one, Nat.mul_assoc]; omega]
        exact hq
      · rw [if_pos (by omega)] at hq
        rw [nI_add, show 7 ^ j * a + b + 7 ^ j = 7 ^ j * (a + 1) + b by rw [Nat.mul_add, Nat.mul_one]; omega]
        exact hq
  have := loop 5 0 c 0 rfl (by decide) (by rw [Nat.pow_zero, Nat.one_mul]; exact hc5) (by rw [Nat.pow_zero, Nat.one_mul]; exact hq)
  rw [Nat.pow_zero, Nat.one_mul, Nat.add_zero] at this
  exact sg_45_0 hY _ this
def zl_al (w : Nat) : Nat → Nat
  | 0 => 0
  | i + 1 => (zl_al w i + 1) * w
theorem zy_c37 (hY : zx_lay Y) (hw6 : w ≤ 6) (hw : 1 ≤ w) (w3 : I 117 3 = nI w) (hq : Q (nI (zl_of w 5)) (I, L, Y)) : zx_Ci l E d 37 [.ref 117] (I, L, Y) Q := by
  have e : zl_of w 5 = zl_al w 5 := (zl_of5 hw6 hw).2
  rw [e] at hq
  have loop : ∀ n i, n + i = 5 → zx_To l E d 37 4 [some (.ref 117), some (.int (nI (zl_al w i))), some (.int (nI i))] [] (I, L, Y) (fun r M' => ∃ v, r = some (.int v) ∧ Q v M') := by
    intro n
    induction n with
    | zero =>
      intro i hi
      have ei : i = 5 := by omega
      subst ei
      exact sg_37_4 hY _ _ ⟨fun _ => ⟨_, rfl, hq⟩, fun h => absurd (by decide) h⟩
    | succ n ih =>
      intro i hi
      refine sg_37_4 hY _ _ ⟨fun h => absurd ((nI_leI (a := 5) (by omega) (by omega)).mp h) (by omega), fun _ => ?_⟩
      rw [w3, nI_1, pk_mul, nI_1]
      exact ih (i + 1) (by omega)
  exact sg_37_0 hY (loop 5 0 rfl)
end YLi
