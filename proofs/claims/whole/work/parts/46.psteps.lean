/-! ===== orders: the class reads ===== -/
section YPs
variable {l : Launch} {E : zx_E} {d : Nat} {I : Nat → Nat → Int32} {L : Nat → Nat → Int64} {Y : zx_Y} {Qo : Option Value → zx_M → Prop} {Q : Int32 → zx_M → Prop} {Qv : zx_M → Prop} {T : Nat → Nat} {n i to : Nat}
theorem zt_tn_45 {j c k : Nat} : zt_tn I j c k 4 5 = nI k := by unfold zt_tn; rw [if_neg (by omega), if_neg (by omega), if_pos ⟨rfl, rfl⟩]
theorem zt_tn_44 {j c k : Nat} : zt_tn I j c k 4 4 = nI c := by unfold zt_tn; rw [if_neg (by omega), if_pos ⟨rfl, rfl⟩]
theorem zo_tn_fr {j c k : Nat} : zy_fr zw_or I (zt_tn I j c k) := fun a y hk => by
  have g : ¬ (a = 4 ∧ 2 ≤ y ∧ y < 6) := fun q => hk (by rw [q.1]; exact zy_in_at 0 4 2 6 y rfl q.2.1 q.2.2)
  unfold zt_tn; rw [if_neg (by omega), if_neg (by omega), if_neg (by omega)]
theorem zo_tn_b {j c k a b : Nat} : zo_bel I (zt_tn I j c k) a b := fun k _ _ => ⟨zt_tn_el (by omega), zt_tn_el (by omega), zt_tn_el (by omega)⟩
/-- one entry is put: what is owed of it -/
theorem zo_put_ok {a j kd w : Nat} (ha : a < 60) (haj : a < j) (hC : zt_C I T n 60 j) (h : zo_P → zo_P) (hh : ∀ r, h r = (kd, w, 0) :: r) :
    zo_okS I (zo_put I a (nI kd) (nI w)) T n a j (a + 1) ∧ (∀ K, zo_bel (zo_put I a (nI kd) (nI w)) K a (a + 1) → ∀ r, zo_A K (a + 1) r → zo_A K a (h r)) ∧ (∀ r, (h r).length = a + 1 - a + r.length) := by
  obtain ⟨p1, p2, p3, p4⟩ := zo_put_at (I := I) (a := a) (k := nI kd) (w := nI w)
  refine ⟨⟨zo_put_fr ha, zo_put_C hC, p4, by omega, by omega, zo_put_bel⟩, fun K hK r hr => ?_, fun r => ?_⟩
  · rw [hh]
    obtain ⟨k1, k2, k3⟩ := hK a (Nat.le_refl _) (by omega)
    exact zo_A_cons.mpr ⟨⟨k1.trans p1, k2.trans p2, k3.trans p3⟩, hr⟩
  · rw [hh, List.length_cons]; omega
theorem zy_c62 (hY : zx_lay Y) (hk : zt_ok T n 60) {f g : Nat} (hg : g ≤ 4) (h61 : g ≠ 0 → zo_c61 l E L Y T n f (g - 1)) {a : Nat} (hf : min n 60 < f + 1 + i) (hi : i ≤ min n 60) (hai : a ≤ i) (hC : zt_C I T n 60 i) (h6 : I 17 6 = nI a)
    (q0 : (zo_st T (min n 60) g (zo_ps T (min n 60) f (g - 1)) i).1 = false → ∀ J, zy_fr zw_or I J → zt_C J T n 60 (zo_st T (min n 60) g (zo_ps T (min n 60) f (g - 1)) i).2.1 → Q 0 (J, L, Y))
    (q1 : (zo_st T (min n 60) g (zo_ps T (min n 60) f (g - 1)) i).1 = true → ∀ J b, zo_okS I J T n a (zo_st T (min n 60) g (zo_ps T (min n 60) f (g - 1)) i).2.1 b → (∀ K, zo_bel J K a b → ∀ r, zo_A K b r → zo_A K a ((zo_st T (min n 60) g (zo_ps T (min n 60) f (g - 1)) i).2.2 r)) → (∀ r, ((zo_st T (min n 60) g (zo_ps T (min n 60) f (g - 1)) i).2.2 r).length = b - a + r.length) → Q 1 (J, L, Y)) :
    zx_Ci l E (d + 3 * g + 3) 62 [.ref 17, .int (nI (4 - g))] (I, L, Y) Q := by
  have hn80 := hk.1
  obtain ⟨r1, r2, r3, r4, r5, r6, r7⟩ := zt_run_ok (T := T) (to := min n 60) 8 i 0 hi zy_dig_0 (by decide) (Nat.le_refl _)
  rw [zy_len_0, Nat.zero_add] at r6
  unfold zo_st at q0 q1
  refine sg_62_0 hY _ (zy_115 hY hk (by omega) hC ?_)
  split
  · rename_i hd
    have hlt := zt_dig_lt hd
    rw [if_pos hd] at q0 q1
    have h6' : zx_u2 I 4 3 (nI (i + 1)) 17 6 = nI a := by rw [zy_u2_na (by omega)]; exact h6
    refine ⟨hY, fun h => absurd ((zy_le0 (by omega)).mp h) (by omega), fun _ => ?_⟩
    exact zy_c63 (I := zx_u2 I 4 3 (nI (i + 1))) hY hk hg h61 (by omega) (by omega) (by omega) (zt_C_at hC) h6' (kd := 2) (fun h J hJ hCJ => ⟨hY, Or.inl rfl, _, rfl, q0 h J (zy_fr_tr zo_43 hJ) hCJ⟩) (fun h J b ok hA hl => ⟨hY, Or.inr rfl, _, rfl, q1 h J b (zo_okS_tr (b := b) (j := i) zo_43 zo_43b ok (Nat.le_refl _)) hA hl⟩)
  · rename_i hd
    rw [if_neg hd] at q0 q1
    refine ⟨hY, fun _ => zy_114 hY hk (by omega) hC (s := 126) (by omega) ?_, fun h => absurd (by decide) h⟩
    split
    · rename_i h126
      have hlt := (zt_s_lt h126 (by omega)).1
      rw [if_pos h126] at q0 q1
      obtain ⟨u1, u2, u3, u4, u5, u6, u7⟩ := zt_run_ok (T := T) (to := min n 60) 8 (i + 1) 0 (by omega) zy_dig_0 (by decide) (Nat.le_refl _)
      rw [zy_len_0, Nat.zero_add] at u6
      refine ⟨hY, fun h => absurd h (by decide), fun _ => zy_116 (I := zx_u2 I 4 3 (nI (i + 1))) hY hk (by omega) (zt_C_at hC) ⟨hY, ?_⟩⟩
      generalize zt_run T (min n 60) 8 (i + 1) 0 = w at *
      dsimp only
      rw [zt_tn_45, zt_tn_44, zy_le0 (by omega)]
      have fr1 : zy_fr zw_or I (zt_tn (zx_u2 I 4 3 (nI (i + 1))) w.2 w.1 (w.2 - (i + 1))) := zy_fr_tr zo_43 zo_tn_fr
      have bl1 : zo_bel I (zt_tn (zx_u2 I 4 3 (nI (i + 1))) w.2 w.1 (w.2 - (i + 1))) 0 a := zo_bel_tr (c := 0) (e := a) zo_43b zo_tn_b (Nat.le_refl _) (Nat.le_refl _)
      have C1 : zt_C (zt_tn (zx_u2 I 4 3 (nI (i + 1))) w.2 w.1 (w.2 - (i + 1))) T n 60 w.2 := zt_C_tn (zt_C_at (j := i + 1) hC)
      have h6' : zt_tn (zx_u2 I 4 3 (nI (i + 1))) w.2 w.1 (w.2 - (i + 1)) 17 6 = nI a := by rw [zt_tn_el (by omega), zy_u2_na (by omega)]; exact h6
      refine ⟨fun h => ⟨_, rfl, ?_⟩, fun h => ?_⟩
      · have h0 : w.1 = 0 := zy_len_pos.mp (by omega)
        rw [if_pos h0] at q0
        exact q0 rfl _ fr1 C1
      · have h0 : w.1 ≠ 0 := fun z => h (by rw [z, zy_len_0] at u6; omega)
        rw [if_neg h0] at q0 q1
        refine zy_c63 (I := zt_tn (zx_u2 I 4 3 (nI (i + 1))) w.2 w.1 (w.2 - (i + 1))) hY hk hg h61 (by omega) (by omega) (by omega) C1 h6' (kd := 3) (fun h J hJ hCJ => ⟨hY, fun _ => ⟨_, rfl, q0 h J (zy_fr_tr fr1 hJ) hCJ⟩, fun h => absurd rfl h⟩) (fun h J b ok hA hl => ⟨hY, fun h => absurd h (by decide), fun _ => ⟨_, rfl, q1 h J b (zo_okS_tr (b := b) (j := i) fr1 bl1 ok (Nat.le_refl _)) hA hl⟩⟩)
    · rename_i h126
      rw [if_neg h126] at q0 q1
      refine ⟨hY, fun _ => zy_116 hY hk hi hC ⟨hY, ?_⟩, fun h => absurd rfl h⟩
      generalize zt_run T (min n 60) 8 i 0 = w at *
      dsimp only
      have fr1 : zy_fr zw_or I (zt_tn I w.2 w.1 (w.2 - i)) := zo_tn_fr
      have bl1 : zo_bel I (zt_tn I w.2 w.1 (w.2 - i)) 0 a := zo_tn_b
      have C1 : zt_C (zt_tn I w.2 w.1 (w.2 - i)) T n 60 w.2 := zt_C_tn hC
      have h6' : zt_tn I w.2 w.1 (w.2 - i) 17 6 = nI a := by rw [zt_tn_el (by omega)]; exact h6
      refine zy_114 (I := zt_tn I w.2 w.1 (w.2 - i)) hY hk (by omega) C1 (s := 42) (by omega) ?_
      split
      · rename_i h42
        have hlt := (zt_s_lt h42 (by omega)).1
        rw [if_pos h42] at q1
        refine ⟨hY, fun h => absurd h (by decide), fun _ => ?_⟩
        dsimp only
        rw [zy_u2_nk (by omega), zt_tn_44]
        have h6'' : zx_u2 (zt_tn I w.2 w.1 (w.2 - i)) 4 3 (nI (w.2 + 1)) 17 6 = nI a := by rw [zy_u2_na (by omega)]; exact h6'
        obtain ⟨o1, o2, o3⟩ := zo_put_ok (I := zx_u2 (zt_tn I w.2 w.1 (w.2 - i)) 4 3 (nI (w.2 + 1))) (T := T) (n := n) (a := a) (j := w.2 + 1) (kd := 1) (w := w.1) (by omega) (by omega) (zt_C_at C1) (zo_all w.1) (fun r => rfl)
        exact zy_c64 (I := zx_u2 (zt_tn I w.2 w.1 (w.2 - i)) 4 3 (nI (w.2 + 1))) hY (by omega) h6'' ⟨hY, Or.inr rfl, _, rfl, q1 rfl _ (a + 1) (zo_okS_tr (b := a) (j := i) (zy_fr_tr fr1 zo_43) (zo_bel_tr (c := 0) (e := a) bl1 zo_43b (Nat.le_refl _) (Nat.le_refl _)) o1 (Nat.le_refl _)) o2 o3⟩
      · rename_i h42
        rw [if_neg h42] at q0 q1
        refine ⟨hY, fun _ => ?_, fun h => absurd rfl h⟩
        dsimp only
        rw [zt_tn_45, zt_tn_44, zy_le0 (by omega)]
        refine ⟨fun h => ⟨_, rfl, ?_⟩, fun h => ?_⟩
        · have h0 : w.1 = 0 := zy_len_pos.mp (by omega)
          rw [if_pos h0] at q0
          exact q0 rfl _ fr1 C1
        · have h0 : w.1 ≠ 0 := fun z => h (by rw [z, zy_len_0] at r6; omega)
          rw [if_neg h0] at q1
          obtain ⟨o1, o2, o3⟩ := zo_put_ok (I := zt_tn I w.2 w.1 (w.2 - i)) (T := T) (n := n) (a := a) (j := w.2) (kd := 0) (w := w.1) (by omega) (by omega) C1 (zo_one w.1) (fun r => rfl)
          exact zy_c64 (I := zt_tn I w.2 w.1 (w.2 - i)) hY (by omega) h6' ⟨hY, fun h => absurd h (by decide), fun _ => ⟨_, rfl, q1 rfl _ (a + 1) (zo_okS_tr (b := a) (j := i) fr1 bl1 o1 (Nat.le_refl _)) o2 o3⟩⟩
theorem zo_c61_all (hY : zx_lay Y) (hk : zt_ok T n 60) : ∀ f g, g ≤ 4 → zo_c61 l E L Y T n f g := by
  have hn80 := hk.1
  -- the loop's head
  have head : ∀ f g, g ≤ 4 → ∀ (d i a m : Nat) (I : Nat → Nat → Int32) (Q : Int32 → zx_M → Prop), min n 60 < f + i → i ≤ min n 60 → a ≤ i → m ≤ i → zt_C I T n 60 i → I 17 6 = nI a →
      ((zo_ps T (min n 60) f g i).1 = false → ∀ J, zy_fr zw_or I J → zt_C J T n 60 (zo_ps T (min n 60) f g i).2.1 → Q 0 (J, L, Y)) →
      ((zo_ps T (min n 60) f g i).1 = true → ∀ J b, zo_okS I J T n a (zo_ps T (min n 60) f g i).2.1 b → b = a + (zo_ps T (min n 60) f g i).2.2.length → zo_A J a (zo_ps T (min n 60) f g i).2.2 → Q 1 (J, L, Y)) →
      zx_To l E (d + 3 * g + 4) 61 2 [some (.ref 17), some (.int (nI (4 - g))), some (.int (nI m))] [] (I, L, Y) (fun r M' => ∃ v, r = some (.int v) ∧ Q v M') := by
    intro f
    induction f with
    | zero => intro g hg d i a m I Q h1 h2; omega
    | succ f ih =>
      intro g hg d i a m I Q hf hi hai hm hC h6 q0 q1
      have h61 : g ≠ 0 → zo_c61 l E L Y T n f (g - 1) := fun hg0 d' i' a' I' Q' k1 k2 k3 k4 k5 k6 k7 =>
        sg_61_0 hY _ (ih (g - 1) (by omega) d' i' a' 0 I' Q' k1 k2 k3 (Nat.zero_le _) k4 k5 k6 k7)
      have sok := zo_st_ok (T := T) (to := min n 60) (g := g) (i := i) (rb := zo_ps T (min n 60) f (g - 1)) hi (fun k hk => zo_ps_ok f (g - 1) k hk)
      rw [zo_ps] at q0 q1
      refine sg_61_2 hY _ _ ⟨fun h => ⟨_, rfl, ?_⟩, fun _ => ?_⟩
      · -- sixty steps would need sixty signs
        have h60 : 60 ≤ m := (nI_leI (a := 60) (by omega) (by omega)).mp h
        have e : i = min n 60 := by omega
        have e1 : zt_s T (min n 60) i = 999 := by unfold zt_s; rw [if_neg (by omega)]
        have e2 : zo_st T (min n 60) g (zo_ps T (min n 60) f (g - 1)) i = (false, i, id) := by
          have e3 : zt_run T (min n 60) 8 i 0 = (0, i) := by
            rw [zt_run, e1]; rfl
          unfold zo_st
          rw [e1, e3]
          rw [if_neg (by decide), if_neg (by decide), if_neg (by rw [e1]; decide), if_pos rfl]
        rw [e2] at q0
        exact q0 rfl I (zy_fr_rf _ _) hC
      · refine zy_c62 (f := f) hY hk hg h61 (by omega) hi hai hC h6 (fun hb J hJ hCJ => ⟨hY, fun h => absurd rfl h, fun _ => ⟨_, rfl, ?_⟩⟩) (fun hb J b ok hA hl => ⟨hY, fun _ => ?_, fun h => absurd h (by decide)⟩)
        · rw [if_neg (by rw [hb]; decide)] at q0
          exact q0 rfl J hJ hCJ
        · obtain ⟨o1, o2, o3, o4, o5, o6⟩ := ok
          obtain ⟨s1, s2, s3⟩ := sok
          have s3 := s3 hb
          rw [if_pos hb] at q0 q1
          generalize zo_st T (min n 60) g (zo_ps T (min n 60) f (g - 1)) i = w at *
          refine zy_114 (I := J) hY hk (by omega) o2 (s := 59) (by omega) ?_
          split
          · rename_i h59
            have hlt := (zt_s_lt h59 (by omega)).1
            rw [if_pos h59] at q0 q1
            refine ⟨hY, fun _ => ?_, fun h => absurd h (by decide)⟩
            have h6' : zx_u2 J 4 3 (nI (w.2.1 + 1)) 17 6 = nI b := by rw [zy_u2_na (by omega)]; exact o3
            rw [nI_1]
            refine ih g hg d (w.2.1 + 1) b (m + 1) (zx_u2 J 4 3 (nI (w.2.1 + 1))) Q (by omega) (by omega) (by omega) (by omega) (zt_C_at o2) h6' (fun hf2 J' hJ' hC' => q0 hf2 J' (zy_fr_tr (zy_fr_tr o1 zo_43) hJ') hC') (fun ht J' b' ok' hbl hA' => ?_)
            obtain ⟨t1, t2, t3, t4, t5, t6⟩ := ok'
            refine q1 ht J' b' ⟨zy_fr_tr (zy_fr_tr o1 zo_43) t1, t2, t3, t4, by omega, ?_⟩ ?_ ?_
            · exact zo_bel_tr (c := 0) (e := a) o6 (fun k x y => (zo_bel_tr (a := 0) (b := b) (c := 0) (e := b) zo_43b t6 (Nat.le_refl _) (Nat.le_refl _)) k x (by omega)) (Nat.le_refl _) (Nat.le_refl _)
            · show b' = a + (w.2.2 _).length
              rw [hl]; omega
            · refine hA J' (fun k x y => ?_) _ hA'
              obtain ⟨z1, z2, z3⟩ := t6 k (Nat.zero_le _) y
              rw [z1, z2, z3]
              refine ⟨?_, ?_, ?_⟩ <;> rw [zy_u2_na (by omega)]
          · rename_i h59
            rw [if_neg h59] at q1
            refine ⟨hY, fun h => absurd rfl h, fun _ => ⟨_, rfl, q1 rfl J b ⟨o1, o2, o3, o4, o5, o6⟩ ?_ ?_⟩⟩
            · show b = a + (w.2.2 []).length
              rw [hl, List.length_nil]; omega
            · exact hA J (fun k x y => ⟨rfl, rfl, rfl⟩) [] zo_A_nil
  intro f g hg d i a I Q k1 k2 k3 k4 k5 k6 k7
  exact sg_61_0 hY _ (head f g hg d i a 0 I Q k1 k2 k3 (Nat.zero_le _) k4 k5 k6 k7)
/-- read: 0 and the rows, or where it can't be read -/
def zo_rd (T : Nat → Nat) (n : Nat) : Bool × Nat × zo_P := zo_ps T (min n 60) 61 4 0
theorem zy_c60 (hY : zx_lay Y) (hk : zt_ok T n 60) (h41 : I 4 1 = nI n) (h5 : ∀ j, j < n → I 5 j = nI (T j))
    (qe : n = 0 → ∀ J, zy_fr zw_or I J → J 17 6 = 0 → Q 0 (J, L, Y))
    (q0 : n ≠ 0 → ((zo_rd T n).1 && decide ((zo_rd T n).2.1 = n)) = false → ∀ J, zy_fr zw_or I J → Q ((-1) - nI (zo_rd T n).2.1) (J, L, Y))
    (q1 : n ≠ 0 → (zo_rd T n).1 = true → (zo_rd T n).2.1 = n → ∀ J, zy_fr zw_or I J → J 17 6 = nI (zo_rd T n).2.2.length → zo_A J 0 (zo_rd T n).2.2 → (zo_rd T n).2.2.length ≤ n → Q 0 (J, L, Y)) :
    zx_Ci l E (d + 17) 60 [.ref 17] (I, L, Y) Q := by
  have hn80 := hk.1
  have fr0 : zy_fr zw_or I (zx_u2 (zx_u2 (zx_u2 I 4 2 60) 4 3 0) 17 6 0) := zy_fr_u2 (zy_fr_u2 (zy_fr_u2 (zy_fr_rf _ _) (zy_in_at 0 4 2 6 2 rfl (by omega) (by omega))) (zy_in_at 0 4 2 6 3 rfl (by omega) (by omega))) (zy_in_at 1 17 6 7 6 rfl (by omega) (by omega))
  have C0 : zt_C (zx_u2 (zx_u2 (zx_u2 I 4 2 60) 4 3 0) 17 6 0) T n 60 0 := by
    refine ⟨⟨?_, ?_, ?_⟩, fun j hj => ?_⟩
    · rw [zy_u2_na (by omega), zy_u2_nk (by omega), zy_u2_nk (by omega)]; exact h41
    · rw [zy_u2_na (by omega), zy_u2_nk (by omega), zy_u2_self]; rfl
    · rw [zy_u2_na (by omega), zy_u2_self]; rfl
    · rw [zy_u2_na (by omega), zy_u2_na (by omega), zy_u2_na (by omega)]; exact h5 j hj
  have rok := zo_ps_ok (T := T) (to := min n 60) 61 4 0 (Nat.zero_le _)
  have z6 : zx_u2 (zx_u2 (zx_u2 I 4 2 60) 4 3 0) 17 6 0 17 6 = 0 := zy_u2_self
  refine sg_60_0 hY (sg_111_0 hY _ ⟨rfl, hY, ?_⟩)
  refine zy_112 (I := zx_u2 (zx_u2 (zx_u2 I 4 2 60) 4 3 0) 17 6 0) hY hk (by omega) C0 ⟨hY, fun h => ?_, fun h => ⟨_, rfl, ?_⟩⟩
  · have hn0 : n ≠ 0 := fun z => h ((zt_lk_end hk).mpr (by omega))
    have fault : ∀ (J : Nat → Nat → Int32) (j : Nat), zt_C J T n 60 j → ∀ K : Int32 → zx_M → Prop, K ((-1) - nI j) (J, L, Y) → zx_Ci l E (d + 16) 113 [.ref 4] (J, L, Y) K := fun J j hJ K hK => sg_113_0 hY ⟨_, rfl, by rw [hJ.1.2.2]; exact hK⟩
    refine zo_c61_all hY hk 61 4 (Nat.le_refl _) d 0 0 _ _ (by omega) (Nat.zero_le _) (Nat.le_refl _) C0 z6 (fun hb J hJ hCJ => ⟨hY, fun _ => ⟨fun _ => ?_, fun h => absurd rfl h⟩, fun h => absurd rfl h⟩) (fun hb J b ok hbl hA => ⟨hY, fun h => absurd h (by decide), fun _ => ?_⟩)
    · refine fault J _ hCJ _ ⟨hY, _, rfl, q0 hn0 ?_ J (zy_fr_tr fr0 hJ)⟩
      unfold zo_rd; rw [hb]; rfl
    · obtain ⟨o1, o2, o3, o4, o5, o6⟩ := ok
      refine zy_112 (I := J) hY hk (by omega) o2 ⟨hY, fun h => ⟨fun _ => ?_, fun h => absurd rfl h⟩, fun h => ⟨fun h => absurd h (by decide), fun _ => ⟨_, rfl, ?_⟩⟩⟩
      · refine fault J _ o2 _ ⟨hY, _, rfl, q0 hn0 ?_ J (zy_fr_tr fr0 o1)⟩
        have : ¬ (zo_rd T n).2.1 = n := fun z => h ((zt_lk_end hk).mpr (by unfold zo_rd at z; omega))
        rw [decide_eq_false this, Bool.and_false]
      · have hle := (zt_lk_end hk).mp h
        have e : (zo_rd T n).2.1 = n := by unfold zo_rd; omega
        rw [Nat.zero_add] at hbl
        have hle2 : (zo_rd T n).2.2.length ≤ n := by
          have : b ≤ (zo_rd T n).2.1 := o4
          unfold zo_rd at e this ⊢; omega
        refine q1 hn0 hb e J (zy_fr_tr fr0 o1) ?_ hA hle2
        rw [o3, hbl]; rfl
  · exact qe (by have := (zt_lk_end hk).mp h; omega) _ fr0 z6
end YPs
