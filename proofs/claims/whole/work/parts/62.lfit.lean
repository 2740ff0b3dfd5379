/-! ===== what a listener knows: those that fit ===== -/
def zl_p (hc : Nat → Nat) (ha : Nat → Bool) (m : Nat) : Nat → Bool := fun c => (zl_hb hc ha m 0 c).isSome
def zl_v (hc : Nat → Nat) (ha : Nat → Bool) (m : Nat) : Nat → Nat := fun c => (zl_hb hc ha m 0 c).getD 0
/-- all that fit -/
def zl_fits (hc : Nat → Nat) (ha : Nat → Bool) (m w : Nat) : List Nat := zl_F w (zl_p hc ha m) (zl_of w 5)
section ZF
variable {w m : Nat} {hc : Nat → Nat} {ha : Nat → Bool}
theorem zl_F_all {p : Nat → Bool} : ∀ j, (∀ i, i < j → p (zl_It w i) = true) → (zl_F w p j).length = j
  | 0, _ => rfl
  | j + 1, h => by
    rw [zl_F, if_pos (h j (by omega)), List.length_append, zl_F_all j (fun i hi => h i (by omega))]; rfl
/-- only one can be taken -/
theorem zl_F_one (hw6 : w ≤ 6) (hw : 1 ≤ w) {p : Nat → Bool} {x : Nat} (hp : ∀ c, p c = true → c = x) : ∀ j, j ≤ zl_of w 5 → zl_F w p j = if (∃ i, i < j ∧ zl_It w i = x) ∧ p x = true then [x] else []
  | 0, _ => by rw [if_neg (fun ⟨⟨i, h, _⟩, _⟩ => by omega)]; rfl
  | j + 1, hj => by
    have ih := zl_F_one hw6 hw hp j (by omega)
    rw [zl_F]
    by_cases h : p (zl_It w j) = true
    · have e := hp _ h
      have hno : ¬ ∃ i, i < j ∧ zl_It w i = x := fun ⟨i, h1, h2⟩ => by
        have := zl_It_inj hw6 hw (show i < zl_of w 5 by omega) (show j < zl_of w 5 by omega) (by rw [h2, e])
        omega
      rw [if_neg (fun q => hno q.1)] at ih
      rw [if_pos h, ih, e, if_pos ⟨⟨j, by omega, e⟩, by rw [← e]; exact h⟩]; rfl
    · rw [if_neg h, ih]
      by_cases z : (∃ i, i < j ∧ zl_It w i = x) ∧ p x = true
      · obtain ⟨⟨i, a, b⟩, c⟩ := z
        rw [if_pos ⟨⟨i, a, b⟩, c⟩, if_pos ⟨⟨i, by omega, b⟩, c⟩]
      · rw [if_neg z, if_neg (fun ⟨⟨i, a, b⟩, c⟩ => z ⟨⟨i, by
          by_cases e : i = j
          · subst e; rw [b] at h; exact absurd c h
          · omega, b⟩, c⟩)]
theorem zl_p_no (h : ∀ s, s < m → ha s = false) : zl_p hc ha m = zl_nh hc m := by
  funext c
  unfold zl_p
  rw [zl_hb_no m 0 (fun s _ hs => h s (by omega)), zl_nr_nh]
  cases zl_nh hc m c <;> rfl
theorem zl_v_no (h : ∀ s, s < m → ha s = false) {c : Nat} (hp : zl_p hc ha m c = true) : zl_v hc ha m c = c := by
  unfold zl_v zl_p at *
  rw [zl_hb_no m 0 (fun s _ hs => h s (by omega))] at hp ⊢
  cases hz : zl_nr hc m 0 c with
  | true => rw [if_pos rfl]; rfl
  | false => rw [hz, if_neg (by decide)] at hp; cases hp
/-- what they came to rises, and is as many -/
theorem zl_fits_v (hw6 : w ≤ 6) (hw : 1 ≤ w) : ((zl_fits hc ha m w).map (zl_v hc ha m)).Pairwise (· < ·) ∧ ((zl_fits hc ha m w).length = 1 ∨ ((zl_fits hc ha m w).map (zl_v hc ha m) = zl_fits hc ha m w) ∨ (zl_fits hc ha m w).length = 0) := by
  rcases zl_fa_ok (hc := hc) (ha := ha) m 0 with ⟨h1, -⟩ | ⟨t0, a1, a2, a3, a4, a5⟩
  · have e : (zl_fits hc ha m w).map (zl_v hc ha m) = zl_fits hc ha m w := by
      have : ∀ c ∈ zl_fits hc ha m w, zl_v hc ha m c = id c := fun c hcm => by
        obtain ⟨i, _, _, hp⟩ := ((zl_F_ok (w := w) (p := zl_p hc ha m) (zl_of w 5)).2 c).mp hcm
        exact zl_v_no (fun s hs => h1 s (Nat.zero_le _) (by omega)) hp
      rw [List.map_congr_left this, List.map_id]
    rw [e]
    exact ⟨zl_F_srt hw6 hw _ (Nat.le_refl _), Or.inr (Or.inl rfl)⟩
  · have e := zl_F_one hw6 hw (p := zl_p hc ha m) (x := hc t0) (fun c hp => zl_hb_yes m 0 a1 (by omega) (fun s b1 b2 => a3 s b1 b2) a4 hp) (zl_of w 5) (Nat.le_refl _)
    unfold zl_fits
    rw [e]
    split
    · exact ⟨List.pairwise_singleton _ _, Or.inl rfl⟩
    · exact ⟨List.Pairwise.nil, Or.inr (Or.inr rfl)⟩
end ZF
section YLf
variable {l : Launch} {E : zx_E} {d : Nat} {I : Nat → Nat → Int32} {L : Nat → Nat → Int64} {Y : zx_Y} {Qo : Option Value → zx_M → Prop} {Q : Int32 → zx_M → Prop} {Qv : zx_M → Prop} {hc : Nat → Nat} {ha : Nat → Bool} {m w : Nat}
theorem zy_c39 (hY : zx_lay Y) (hC : zl_C I hc ha m w) (hn : ∀ t, t < m → hc t ≠ 0 ∧ zy_dig (hc t) = true) (hq : Q (nI (zl_fits hc ha m w).length) (I, L, Y)) : zx_Ci l E (d + 1) 39 [.ref 117] (I, L, Y) Q := by
  have hC0 := hC
  obtain ⟨⟨m1, m2⟩, ⟨w1, w2, w3⟩, hh⟩ := hC
  have hN := (zl_of5 w2 w1).1
  refine sg_39_0 hY (zy_c42 hY hC0 ⟨hY, ?_⟩)
  rcases zl_fa_ok (hc := hc) (ha := ha) m 0 with ⟨h1, h2⟩ | ⟨t0, a1, a2, a3, a4, a5⟩
  · rw [h2]
    refine ⟨fun _ => zy_c37 hY w2 w1 w3 ⟨hY, ?_⟩, fun h => absurd rfl h⟩
    unfold zl_fits at hq
    rw [zl_p_no (fun s hs => h1 s (Nat.zero_le _) (by omega))] at hq
    have loop : ∀ n t, n + t = m → zx_To l E (d + 1) 39 38 [some (.ref 117), none, some (.int (nI (zl_F w (zl_nh hc t) (zl_of w 5)).length)), some (.int (nI t))] [] (I, L, Y) (fun r M' => ∃ v, r = some (.int v) ∧ Q v M') := by
      intro n
      induction n with
      | zero =>
        intro t ht
        have et : t = m := by omega
        subst et
        refine sg_39_38 hY _ _ ⟨fun _ => ⟨_, rfl, hq⟩, fun h => absurd ?_ h⟩
        rw [m2]; exact nI_le (by omega) (by omega)
      | succ n ih =>
        intro t ht
        obtain ⟨k1, k2, k3⟩ := hh t (by omega)
        obtain ⟨n1, n2⟩ := hn t (by omega)
        have hv := vp_in_nI (n := t) (N := 40) (by omega) (by omega)
        have next := ih (t + 1) (by omega)
        have out := zl_F_out w2 w1 (p := zl_nh hc t) (x := hc t) (zl_of w 5) (Nat.le_refl _)
        have hle := (zl_F_ok (w := w) (p := zl_nh hc t) (zl_of w 5)).1
        have eF : zl_F w (fun c => zl_nh hc t c && decide (hc t ≠ c)) (zl_of w 5) = zl_F w (zl_nh hc (t + 1)) (zl_of w 5) := rfl
        rw [eF] at out
        have app : (∃ i, i < zl_of w 5 ∧ zl_It w i = hc t) ↔ zl_wi w 5 (hc t) = true := by
          constructor
          · rintro ⟨i, a, b⟩; rw [← b]; exact (zl_It_ok w2 w1 a).2.2.1
          · intro h; exact zl_It_mem w2 w1 n1 n2 h
        obtain ⟨f1, f2, f3, f4⟩ := zl_fh_ok (hc := hc) (c := hc t) m 0
        have fiff : zl_fh hc (hc t) m 0 = t ↔ zl_nh hc t (hc t) = true := by
          rw [zl_nh_iff]
          constructor
          · intro e s hs; exact f3 s (Nat.zero_le _) (by omega)
          · intro h
            by_cases z : zl_fh hc (hc t) m 0 < t
            · exact absurd (f4 (by omega)) (h _ z)
            · by_cases z2 : t < zl_fh hc (hc t) m 0
              · exact absurd rfl (f3 t (Nat.zero_le _) z2)
              · omega
        refine sg_39_38 hY _ _ ⟨fun h => ?_, fun _ => ⟨hv, ?_⟩⟩
        · rw [m2] at h
          exact absurd ((nI_leI (by omega) (by omega)).mp h) (by omega)
        · rw [nI_clamp (by omega), k1, nI_1]
          refine zy_c44 hY hC0 (by omega) ⟨hY, fun h => ?_, fun h => ⟨hv, ?_⟩⟩
          · rw [zy_b0] at h
            rw [if_neg (fun q => by rw [app.mp q.1] at h; cases h)] at out
            rw [Nat.add_zero] at out
            rw [out] at next
            exact next
          · rw [zy_b1] at h
            dsimp only
            rw [k1]
            refine zy_c43 hY hC0 (by omega) ⟨hY, ?_⟩
            rw [nI_eq (by omega) (by omega), fiff]
            refine ⟨fun h3 => ?_, fun h3 => ?_⟩
            · rw [if_neg (fun q => h3 q.2), Nat.add_zero] at out
              rw [out] at next
              exact next
            · rw [if_pos ⟨app.mpr h, h3⟩] at out
              rw [← out, zy_m1]
              exact next
    have := loop m 0 (by omega)
    rw [zl_F_all _ (fun i _ => rfl)] at this
    exact this
  · obtain ⟨k1, k2, k3⟩ := hh t0 (by omega)
    obtain ⟨n1, n2⟩ := hn t0 (by omega)
    have e := zl_F_one w2 w1 (p := zl_p hc ha m) (x := hc t0) (fun c hp => zl_hb_yes m 0 a1 (by omega) (fun s b1 b2 => a3 s b1 b2) a4 hp) (zl_of w 5) (Nat.le_refl _)
    have app : (∃ i, i < zl_of w 5 ∧ zl_It w i = hc t0) ↔ zl_wi w 5 (hc t0) = true := by
      constructor
      · rintro ⟨i, a, b⟩; rw [← b]; exact (zl_It_ok w2 w1 a).2.2.1
      · intro h; exact zl_It_mem w2 w1 n1 n2 h
    unfold zl_fits at hq
    rw [e] at hq
    rw [a5, zy_eq0 (by omega)]
    refine ⟨fun h => absurd h n1, fun _ => zy_c44 hY hC0 (by omega) ⟨hY, fun h => ⟨_, rfl, ?_⟩, fun h => zy_c41 hY hC0 (by omega) ⟨hY, ?_⟩⟩⟩
    · rw [zy_b0] at h
      rw [if_neg (fun q => by rw [app.mp q.1] at h; cases h)] at hq
      exact hq
    · rw [zy_b1] at h
      cases hz : zl_hb hc ha m 0 (hc t0) with
      | none =>
        refine ⟨fun _ => ⟨_, rfl, ?_⟩, fun h2 => absurd (show (-1 : Int32) < 0 by decide) h2⟩
        rw [if_neg (fun q => by have := q.2; unfold zl_p at this; rw [hz] at this; cases this)] at hq
        exact hq
      | some v =>
        have hv := zl_hb_lt m 0 _ _ hz
        refine ⟨fun h2 => absurd h2 (show ¬ nI v < 0 from nI_pos (by omega)), fun _ => ⟨_, rfl, ?_⟩⟩
        rw [if_pos ⟨app.mpr h, by unfold zl_p; rw [hz]; rfl⟩] at hq
        exact hq
theorem zy_c40 (hY : zx_lay Y) (hC : zl_C I hc ha m w) (hn : ∀ t, t < m → hc t ≠ 0 ∧ zy_dig (hc t) = true) (hne : zl_fits hc ha m w ≠ []) (hq : Q (nI ((zl_fits hc ha m w).getD 0 0)) (I, L, Y)) : zx_Ci l E (d + 1) 40 [.ref 117] (I, L, Y) Q := by
  have hC0 := hC
  obtain ⟨⟨m1, m2⟩, ⟨w1, w2, w3⟩, hh⟩ := hC
  have hN := (zl_of5 w2 w1).1
  refine sg_40_0 hY (zy_c42 hY hC0 ⟨hY, ?_⟩)
  rcases zl_fa_ok (hc := hc) (ha := ha) m 0 with ⟨h1, h2⟩ | ⟨t0, a1, a2, a3, a4, a5⟩
  · rw [h2]
    refine ⟨fun _ => ?_, fun h => absurd rfl h⟩
    unfold zl_fits at hq hne
    rw [zl_p_no (fun s hs => h1 s (Nat.zero_le _) (by omega))] at hq hne
    -- the first that was not heard
    obtain ⟨k, ⟨kN, kp⟩, kmin⟩ := pk_least (fun k => k < zl_of w 5 ∧ zl_nh hc m (zl_It w k) = true) (by
      cases hF : zl_F w (zl_nh hc m) (zl_of w 5) with
      | nil => exact absurd hF hne
      | cons x xs =>
        obtain ⟨i, b1, b2, b3⟩ := ((zl_F_ok (w := w) (p := zl_nh hc m) (zl_of w 5)).2 x).mp (by rw [hF]; exact List.mem_cons_self)
        exact ⟨i, b1, by rw [b2]; exact b3⟩)
    have kf : ∀ i, i < k → zl_nh hc m (zl_It w i) = false := fun i hi => by
      cases hz : zl_nh hc m (zl_It w i) with
      | false => rfl
      | true => exact absurd ⟨by omega, hz⟩ (kmin i hi)
    have khd := (zl_F_head kp kf (zl_of w 5) kN).1
    rw [khd] at hq
    -- as many were heard
    have km : k ≤ m := by
      have nd : ((List.range k).map (zl_It w)).Nodup := by
        rw [List.nodup_iff_pairwise_ne, List.pairwise_map]
        refine List.Pairwise.imp_of_mem ?_ (List.nodup_range (n := k))
        intro a b ha hb hab e
        rw [List.mem_range] at ha hb
        exact hab (zl_It_inj w2 w1 (by omega) (by omega) e)
      have sub : (List.range k).map (zl_It w) ⊆ (List.range m).map hc := fun x hx => by
        obtain ⟨i, hi, rfl⟩ := List.mem_map.mp hx
        rw [List.mem_range] at hi
        have hf := kf i hi
        by_cases z : ∃ s, s < m ∧ hc s = zl_It w i
        · obtain ⟨s, s1, s2⟩ := z
          exact List.mem_map.mpr ⟨s, List.mem_range.mpr s1, s2⟩
        · have : zl_nh hc m (zl_It w i) = true := (zl_nh_iff m).mpr (fun s hs e => z ⟨s, hs, e⟩)
          rw [this] at hf; cases hf
      have := List.Nodup.length_le_of_subset nd sub
      rw [List.length_map, List.length_map, List.length_range, List.length_range] at this
      exact this
    have loop : ∀ n i, n + i = k → zx_To l E (d + 1) 40 15 [some (.ref 117), none, some (.int (nI (zl_It w i))), some (.int (nI i))] [] (I, L, Y) (fun r M' => ∃ v, r = some (.int v) ∧ Q v M') := by
      intro n
      induction n with
      | zero =>
        intro i hi
        have ei : i = k := by omega
        subst ei
        have b4 := (zl_It_ok w2 w1 kN).2.2.2
        obtain ⟨f1, f2, f3, f4⟩ := zl_fh_ok (hc := hc) (c := zl_It w i) m 0
        have fe : zl_fh hc (zl_It w i) m 0 = m := by
          by_cases z : zl_fh hc (zl_It w i) m 0 < m
          · exact absurd (f4 (by omega)) ((zl_nh_iff m).mp kp _ z)
          · omega
        refine sg_40_15 hY _ _ ⟨fun _ => ⟨_, rfl, hq⟩, fun _ => zy_c43 hY hC0 (by omega) ⟨hY, fun _ => ⟨_, rfl, hq⟩, fun h => absurd ?_ h⟩⟩
        dsimp only
        rw [m2, fe]; exact nI_le (Nat.le_refl _) (by omega)
      | succ n ih =>
        intro i hi
        have b4 := (zl_It_ok w2 w1 (show i < zl_of w 5 by omega)).2.2.2
        have hf := kf i (by omega)
        obtain ⟨f1, f2, f3, f4⟩ := zl_fh_ok (hc := hc) (c := zl_It w i) m 0
        have fe : zl_fh hc (zl_It w i) m 0 < m := by
          by_cases z : zl_fh hc (zl_It w i) m 0 < m
          · exact z
          · have : zl_nh hc m (zl_It w i) = true := (zl_nh_iff m).mpr (fun s hs => f3 s (Nat.zero_le _) (by omega))
            rw [this] at hf; cases hf
        refine sg_40_15 hY _ _ ⟨fun h => ?_, fun _ => zy_c43 hY hC0 (by omega) ⟨hY, fun h => ?_, fun _ => zy_c45 hY hC0 b4 ⟨hY, ?_⟩⟩⟩
        · rw [m2] at h
          exact absurd ((nI_leI (by omega) (by omega)).mp h) (by omega)
        · dsimp only at h
          rw [m2] at h
          exact absurd ((nI_leI (by omega) (by omega)).mp h) (by omega)
        · rw [nI_1]
          exact ih (i + 1) (by omega)
    exact loop k 0 (by omega)
  · obtain ⟨k1, k2, k3⟩ := hh t0 (by omega)
    obtain ⟨n1, n2⟩ := hn t0 (by omega)
    have e := zl_F_one w2 w1 (p := zl_p hc ha m) (x := hc t0) (fun c hp => zl_hb_yes m 0 a1 (by omega) (fun s b1 b2 => a3 s b1 b2) a4 hp) (zl_of w 5) (Nat.le_refl _)
    unfold zl_fits at hq hne
    rw [e] at hq hne
    rw [a5, zy_eq0 (by omega)]
    refine ⟨fun h => absurd h n1, fun _ => ⟨_, rfl, ?_⟩⟩
    split at hq
    · exact hq
    · rename_i z
      rw [if_neg z] at hne
      exact absurd rfl hne
end YLf
