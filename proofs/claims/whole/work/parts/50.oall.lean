/-! ===== orders: names called together; brackets passed ===== -/
section YAl
variable {J X : Nat → Nat → Int32} {r : Nat} {xs : List Nat}
theorem zo_wr_mlo (h : r < 132) : zo_wr (zy_mix J X) r xs = zy_mix (zo_wr J r xs) X := by
  refine zy_mix_eq (fun b m hb => ?_) (fun b m hb => ?_)
  · unfold zo_wr; rw [zy_mix_lo hb]
  · rw [zo_wr_el (by omega), zy_mix_hi hb]
theorem zo_wr_mhi (h : 132 ≤ r) : zo_wr (zy_mix X J) r xs = zy_mix X (zo_wr J r xs) := by
  refine zy_mix_eq (fun b m hb => ?_) (fun b m hb => ?_)
  · rw [zo_wr_el (by omega), zy_mix_lo hb]
  · unfold zo_wr; rw [zy_mix_hi hb]
end YAl
def zo_nm (J : Nat → Nat → Int32) : Nat → Nat := fun p => zy_n (J 9 p)
theorem zo_nm_ok {J : Nat → Nat → Int32} {P b : Nat} (hK : zo_K P b J) : P ≤ 10 ∧ J 132 3 = nI P ∧ (∀ p, p < 10 → J 9 p = nI (zo_nm J p) ∧ zo_nm J p < 5764801) ∧ (∀ p, p < P → J 134 p = nI (zo_nm J p) ∧ zo_nm J p < 5764801) ∧ (∀ p, P ≤ p → p < 10 → zo_nm J p = 0) ∧ (∀ p, p < 10 → zy_dig (zo_nm J p) = true) := by
  obtain ⟨S, r, H, ⟨hP, h7, h3⟩, his, hn, hz, -⟩ := hK
  have k : ∀ p, p < 10 → J 9 p = nI (zo_nm J p) ∧ zo_nm J p < 5764801 ∧ zy_dig (zo_nm J p) = true := by
    intro p hp
    have h := zy_is_n (his p hp)
    unfold zo_nm
    exact h
  refine ⟨hP, h3, fun p hp => ⟨(k p hp).1, (k p hp).2.1⟩, fun p hp => ⟨?_, (k p (by omega)).2.1⟩, fun p h1 h2 => ?_, fun p hp => (k p hp).2.2⟩
  · rw [(hn p hp).1]; exact (k p (by omega)).1
  · have e := (k p h2).1
    rw [(hz p h1 h2).1] at e
    exact ((zy_eq0 (Nat.lt_trans (k p h2).2.1 (by omega))).mp e.symm)
theorem zo_lst_P {J : Nat → Nat → Int32} {P b s : Nat} (hK : zo_K P b J) : zo_lst (zo_nm J) s 10 = zo_lst (zo_nm J) s P := by
  obtain ⟨hP, -, -, -, hz, -⟩ := zo_nm_ok hK
  have hb : ∀ p, P ≤ p → p < 10 → zy_bg (zo_nm J) s p = false := by
    intro p h1 h2
    have e : zy_bg (zo_nm J) s p = (decide (zo_nm J p ≠ 0) && zy_st (zo_nm J p) s) := rfl
    have h0 : ¬ zo_nm J p ≠ 0 := fun q => q (hz p h1 h2)
    rw [e, decide_eq_false h0, Bool.false_and]
  exact zo_lst_ext 10 hP hb
theorem zo_lst_cong {f g : Nat → Nat} {s : Nat} : ∀ n, (∀ p, p < n → f p = g p) → zo_lst f s n = zo_lst g s n
  | 0, _ => rfl
  | n + 1, h => by
    have e : zy_bg f s n = zy_bg g s n := by
      show (decide (f n ≠ 0) && zy_st (f n) s) = (decide (g n ≠ 0) && zy_st (g n) s)
      rw [h n (by omega)]
    rw [zo_lst, zo_lst, e, h n (by omega), zo_lst_cong n (fun p hp => h p (by omega))]
theorem zo_nm_id {J J2 : Nat → Nat → Int32} {s : Nat} (h : zy_fr zw_id J J2) : zo_lst (zo_nm J2) s 10 = zo_lst (zo_nm J) s 10 := by
  refine zo_lst_cong 10 (fun p hp => ?_)
  unfold zo_nm
  rw [zy_fr_row h 9 10 (by decide) hp]
theorem zs_all_m {J : Nat → Nat → Int32} {P b s : Nat} (hK : zo_K P b J) (hs : zy_is (nI s) = true) (hs2 : s < 2 ^ 31) {l : Launch} {E : zx_E} {d : Nat} {X : Nat → Nat → Int32} {L : Nat → Nat → Int64} {Y : zx_Y} {Q : zx_M → Prop} (hY : zx_lay Y)
    (hq : zx_To l E (d + 4) 202 125 [some (.ref 132), none, none, some (.int (nI (zo_lst (zo_nm J) s 10).length)), none, some (.int 0), none, none] [] (zy_mix X (zo_wr (zx_u2 J 132 0 0) 143 (zo_lst (zo_nm J) s 10)), L, Y) (fun r M' => r = none ∧ Q M')) : zx_Cv l E (d + 4) 202 [.ref 132, .int (nI s)] (zy_mix X J, L, Y) Q := by
  rw [zo_lst_P hK] at hq
  obtain ⟨hP, h3, -, hn, -, -⟩ := zo_nm_ok hK
  refine zy_202 (I := zy_mix X J) hY hP h3 hn hs hs2 ?_
  rw [zy_mix_uhi (by omega), zo_wr_mhi (by omega)]
  exact hq
theorem zs_all_nil {J : Nat → Nat → Int32} {P b s : Nat} (hK : zo_K P b J) (hs : zy_is (nI s) = true) (hs2 : s < 2 ^ 31) (hnil : zo_lst (zo_nm J) s 10 = []) {l : Launch} {E : zx_E} {d : Nat} {X : Nat → Nat → Int32} {L : Nat → Nat → Int64} {Y : zx_Y} {Q : zx_M → Prop} (hY : zx_lay Y) (hq : Q (zy_mix X (zx_u2 J 132 0 0), L, Y)) : zx_Cv l E (d + 4) 202 [.ref 132, .int (nI s)] (zy_mix X J, L, Y) Q := by
  refine zs_all_m hK hs hs2 hY ?_
  rw [hnil, zo_wr_nil]
  exact sg_202_125 hY _ _ ⟨fun _ => ⟨rfl, hq⟩, fun h => absurd (by decide) h⟩
theorem zs_all {J : Nat → Nat → Int32} {P b c u s : Nat} (hK : zo_K P b J) (hX : zo_X J c u false) (hs : zy_is (nI s) = true) (hs2 : s < 2 ^ 31) :
    ∃ (J' : Nat → Nat → Int32) (c' : Nat) (e' : Bool), zo_K P b J' ∧ zo_X J' c' u e' ∧ zy_fr zw_ex J J' ∧ J' 132 15 = J 132 15 ∧ c ≤ c' ∧ (c' = c → e' = false → J' = zx_u2 J 132 0 0 ∧ zo_lst (zo_nm J) s 10 = []) ∧
    (∀ (l : Launch) (E : zx_E) (d : Nat) (X : Nat → Nat → Int32) (L : Nat → Nat → Int64) (Y : zx_Y) (Q : zx_M → Prop), zx_lay Y → Q (zy_mix J' X, L, Y) → zx_Cv l E (d + 4) 69 [.ref 17, .int (nI s)] (zy_mix J X, L, Y) Q) ∧
    (∀ (l : Launch) (E : zx_E) (d : Nat) (X : Nat → Nat → Int32) (L : Nat → Nat → Int64) (Y : zx_Y) (Q : zx_M → Prop), zx_lay Y → Q (zy_mix X J', L, Y) → zx_Cv l E (d + 4) 202 [.ref 132, .int (nI s)] (zy_mix X J, L, Y) Q) := by
  obtain ⟨hP, h3, hn, hn2, hz, hd⟩ := zo_nm_ok hK
  obtain ⟨k1, k2, k3⟩ := zo_lst_ok (f := zo_nm J) (s := s) 10
  generalize hxs : zo_lst (zo_nm J) s 10 = xs at *
  have hg : ∀ k, k < xs.length → xs.getD k 0 < 5764801 ∧ xs.getD k 0 ≠ 0 ∧ zy_dig (xs.getD k 0) = true := fun k hk => by
    have hm : xs.getD k 0 ∈ xs := by rw [List.getD_eq_getElem?_getD, List.getElem?_eq_getElem hk]; exact List.getElem_mem _
    obtain ⟨p, a, b, c⟩ := (k3 _).mp hm
    rw [← c]
    unfold zy_bg at b
    simp only [Bool.and_eq_true, decide_eq_true_eq] at b
    exact ⟨(hn p a).2, b.1, hd p a⟩
  have loop : ∀ (n k : Nat) (J : Nat → Nat → Int32) (c : Nat) (e : Bool), n + k = xs.length → zo_K P b J → zo_X J c u e → (∀ j, j < xs.length → J 21 j = nI (xs.getD j 0) ∧ J 143 j = nI (xs.getD j 0)) →
      ∃ (J' : Nat → Nat → Int32) (c' : Nat) (e' : Bool), zo_K P b J' ∧ zo_X J' c' u e' ∧ zy_fr zw_ex J J' ∧ J' 132 15 = J 132 15 ∧ c ≤ c' ∧ (c' = c → e' = false → J' = J ∧ n = 0) ∧ (e = true → e' = true) ∧
      (∀ (l : Launch) (E : zx_E) (d : Nat) (X : Nat → Nat → Int32) (L : Nat → Nat → Int64) (Y : zx_Y) (Q : Option Value → zx_M → Prop), zx_lay Y → Q none (zy_mix J' X, L, Y) → zx_To l E (d + 4) 69 8 [some (.ref 17), none, some (.int (nI xs.length)), some (.int (nI k))] [] (zy_mix J X, L, Y) Q) ∧
      (∀ (l : Launch) (E : zx_E) (d : Nat) (X : Nat → Nat → Int32) (L : Nat → Nat → Int64) (Y : zx_Y) (Q : Option Value → zx_M → Prop), zx_lay Y → Q none (zy_mix X J', L, Y) → zx_To l E (d + 4) 202 125 [some (.ref 132), none, none, some (.int (nI xs.length)), none, some (.int (nI k)), none, none] [] (zy_mix X J, L, Y) Q) := by
    intro n
    induction n with
    | zero =>
      intro k J c e hk hK hX hL
      refine ⟨J, c, e, hK, hX, zy_fr_rf _ _, rfl, Nat.le_refl _, fun _ _ => ⟨rfl, rfl⟩, id, fun l E d X L Y Q hY hq => ?_, fun l E d X L Y Q hY hq => ?_⟩
      · exact sg_69_8 hY _ _ ⟨fun _ => hq, fun h => absurd (nI_le (by omega) (by omega)) h⟩
      · exact sg_202_125 hY _ _ ⟨fun _ => hq, fun h => absurd (nI_le (by omega) (by omega)) h⟩
    | succ n ih =>
      intro k J c e hk hK hX hL
      have nle : ¬ nI xs.length ≤ nI k := fun h => by have := (nI_leI (by omega) (by omega)).mp h; omega
      have n10 : ¬ (10 : Int32) ≤ nI k := fun h => by have := (zy_10 (by omega)).mp h; omega
      cases e with
      | true =>
        have w1 : J 17 11 = 1 := hX.2.2.2.1
        have w2 : J 132 25 = 1 := hX.2.2.2.2
        refine ⟨J, c, true, hK, hX, zy_fr_rf _ _, rfl, Nat.le_refl _, fun _ h => (by cases h), id, fun l E d X L Y Q hY hq => ?_, fun l E d X L Y Q hY hq => ?_⟩
        · refine sg_69_8 hY _ _ ⟨fun h => absurd h nle, fun _ => ⟨fun h => absurd h n10, fun _ => ⟨fun _ => hq, fun h => ?_⟩⟩⟩
          have h : J 17 11 = 0 := h
          rw [w1] at h; exact absurd h (by decide)
        · refine sg_202_125 hY _ _ ⟨fun h => absurd h nle, fun _ => ⟨fun _ => hq, fun h => ?_⟩⟩
          have h : J 132 25 = 0 := h
          rw [w2] at h; exact absurd h (by decide)
      | false =>
        obtain ⟨g1, g2, g3⟩ := hg k (by omega)
        obtain ⟨J1, c1, e1, hK1, hX1, fr1, p1, le1, ne1, cC, cM⟩ := zs_made hK hX g1 g2 g3
        have hL1 : ∀ j, j < xs.length → J1 21 j = nI (xs.getD j 0) ∧ J1 143 j = nI (xs.getD j 0) := fun j hj => by
          rw [zy_fr_row fr1 21 10 (by decide) (by omega), zy_fr_row fr1 143 10 (by decide) (by omega)]
          exact hL j hj
        obtain ⟨J2, c2, e2, hK2, hX2, fr2, p2, le2, ne2, ee2, sC, sM⟩ := ih (k + 1) J1 c1 e1 (by omega) hK1 hX1 hL1
        have w1 : J 17 11 = 0 := hX.2.2.2.1
        have w2 : J 132 25 = 0 := hX.2.2.2.2
        refine ⟨J2, c2, e2, hK2, hX2, zy_fr_tr (zy_fr_mono fr1 (by decide)) fr2, p2.trans p1, by omega, fun h1 h2 => ?_, fun h => (by cases h), fun l E d X L Y Q hY hq => ?_, fun l E d X L Y Q hY hq => ?_⟩
        · have := ne1 (by omega)
          rw [ee2 this] at h2; cases h2
        · refine sg_69_8 hY _ _ ⟨fun h => absurd h nle, fun _ => ⟨fun h => absurd h n10, fun _ => ⟨fun h => absurd w1 h, fun _ => ⟨vp_in_nI (by omega) (by omega), ?_⟩⟩⟩⟩
          rw [nI_clamp (by omega), nI_1]
          show zx_Cv l E (d + 3) 68 [.ref 17, .int (J 21 k)] (zy_mix J X, L, Y) _
          rw [(hL k (by omega)).1]
          exact cC l E d X L Y _ hY ⟨hY, sC l E d X L Y Q hY hq⟩
        · refine sg_202_125 hY _ _ ⟨fun h => absurd h nle, fun _ => ⟨fun h => absurd w2 h, fun _ => ⟨vp_in_nI (by omega) (by omega), ?_⟩⟩⟩
          rw [nI_clamp (by omega), nI_1]
          show zx_Cv l E (d + 3) 201 [.ref 132, .int (J 143 k)] (zy_mix X J, L, Y) _
          rw [(hL k (by omega)).2]
          exact cM l E d X L Y _ hY ⟨hY, sM l E d X L Y Q hY hq⟩
  have fr0 : zy_fr zw_ex J (zo_wr (zo_wr (zx_u2 J 132 0 0) 21 xs) 143 xs) := zy_fr_tr (zy_fr_tr (zy_fr_mono (zy_thr_fr (v := 0)) (by decide)) (zy_fr_mono (zo_wr_fr (by omega)) (by decide))) (zy_fr_mono (zo_wr_fr (by omega)) (by decide))
  have frs : zy_fr [(132, 0, 1), (21, 0, 10), (143, 0, 10)] J (zo_wr (zo_wr (zx_u2 J 132 0 0) 21 xs) 143 xs) := zy_fr_tr (zy_fr_tr (zy_fr_mono (zy_thr_fr (v := 0)) (by decide)) (zy_fr_mono (zo_wr_fr (by omega)) (by decide))) (zy_fr_mono (zo_wr_fr (by omega)) (by decide))
  obtain ⟨J', c', e', hK', hX', fr', p', le', ne', -, sC, sM⟩ := loop xs.length 0 _ c false (by omega) (zo_K_fr hK frs (by decide)) (zo_X_fr hX frs (by decide)) (fun j hj => ⟨by rw [zo_wr_el (by omega), zo_wr_at hj], by rw [zo_wr_at hj]⟩)
  refine ⟨J', c', e', hK', hX', zy_fr_tr fr0 fr', ?_, le', fun h1 h2 => ?_, fun l E d X L Y Q hY hq => ?_, fun l E d X L Y Q hY hq => ?_⟩
  · rw [p', zy_fr_at frs 132 15 (by decide)]
  · obtain ⟨a1, a2⟩ := ne' h1 h2
    have hnil : xs = [] := List.length_eq_zero_iff.mp a2
    refine ⟨?_, hnil⟩
    rw [a1, hnil, zo_wr_nil, zo_wr_nil]
  · refine sg_69_0 hY _ (zy_c70 (I := zy_mix J X) (f := zo_nm J) hY hn hs2 ⟨hY, ?_⟩)
    rw [hxs, zo_wr_mlo (by omega)]
    have e : zy_mix (zo_wr J 21 xs) X = zy_mix (zo_wr (zo_wr (zx_u2 J 132 0 0) 21 xs) 143 xs) X := zy_mix_eq (fun a k ha => by rw [zy_mix_lo ha, zo_wr_el (r := 143) (by omega)]; unfold zo_wr; rw [zy_u2_na (by omega)]) (fun a k ha => by rw [zy_mix_hi ha])
    rw [e]
    exact sC l E d X L Y _ hY ⟨rfl, hq⟩
  · refine zs_all_m hK hs hs2 hY ?_
    rw [hxs]
    have e : zy_mix X (zo_wr (zx_u2 J 132 0 0) 143 xs) = zy_mix X (zo_wr (zo_wr (zx_u2 J 132 0 0) 21 xs) 143 xs) := zy_mix_eq (fun a k ha => by rw [zy_mix_lo ha]) (fun a k ha => by rw [zy_mix_hi ha]; unfold zo_wr; split; rfl; rw [if_neg (by omega)])
    rw [e]
    exact sM l E d X L Y _ hY ⟨rfl, hq⟩
