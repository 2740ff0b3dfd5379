/-! ===== search: comes, alone, most of the reference ===== -/
section YRj
variable {l : Launch} {E : zx_E} {d : Nat} {I : Nat → Nat → Int32} {L : Nat → Nat → Int64} {Y : zx_Y} {Qo : Option Value → zx_M → Prop} {Q : Int32 → zx_M → Prop} {Qv : zx_M → Prop} {P b n : Nat} {f s ps c : Nat → Nat}
theorem zy_241 (hY : zx_lay Y) (hI : zg_I I P f) (hb : b < 2 ^ 31) (h8 : I 132 8 = nI b) {x : Int64}
    (hq1 : (zg_du P x = false ∨ ∃ y, y < 16 ^ P ∧ x = nL y ∧ ¬ zg_S f P y) → ∀ J, zg_fz I J L L → Q (-1) (J, L, Y))
    (hq3 : ∀ y, x = nL y → zg_S f P y → ∀ J K, zg_fz I J L K → zg_many f P b → Q (-3) (J, K, Y))
    (hq2 : ∀ y n s ps c J K, x = nL y → zg_S f P y → zg_tab f P b n s ps c → (∀ i, i < n → s i ≠ y) → zg_fz I J L K → Q (-2) (J, K, Y))
    (hq : ∀ y n s ps c J K i, x = nL y → zg_S f P y → zg_tab f P b n s ps c → i < n → s i = y → zg_fz I J L K → Q (nI (c i)) (J, K, Y)) :
    zx_Ci l E (d + 5) 241 [.ref 132, .long x] (I, L, Y) Q := by
  have uI := zg_I_u hI (v := 0)
  have fz0 : zg_fz I (zx_u2 I 132 0 0) L L := ⟨fun x k _ _ _ _ x5 _ _ => zy_u2_ne x5, fun _ _ _ => rfl⟩
  refine sg_241_0 hY _ (zy_232 hY hI.1 uI.2.1 ⟨hY, fun h => ?_, fun h => ⟨_, rfl, ?_⟩⟩)
  · rw [zy_b1] at h
    obtain ⟨y, hy, ex⟩ := zg_du_ok h
    have y40 := zg_40 hI.1 hy
    have exy := ex
    rw [ex]
    have key : ∀ r p, p + r = P → (∀ q, q < p → zg_d y q ≤ zy_len (f q)) → zx_To l E (d + 5) 241 17 [some (.ref 132), some (.long (nL y)), none, some (.int (nI p))] [] (zx_u2 I 132 0 0, L, Y) (fun r M' => ∃ v, r = some (.int v) ∧ Q v M') := by
      intro r
      induction r with
      | zero =>
        intro p hp hall
        have ep : p = P := by omega
        subst ep
        have hS : zg_S f p y := ⟨hy, hall⟩
        refine sg_241_17 hY _ _ ⟨fun _ => ?_, fun h => absurd (by rw [uI.2.1]; exact (nI_leI (by have := hI.1; omega) (by have := hI.1; omega)).mpr (Nat.le_refl _)) h⟩
        rw [zy_u2_nk (show (8 : Nat) ≠ 0 by omega), h8]
        refine zy_226F hY uI hb (fun n s ps c J K hF hx => ⟨hY, fun _ => ?_, fun h => absurd h (by decide)⟩) (fun J K hx hm => ⟨hY, fun h => absurd rfl h, fun _ => ⟨_, rfl, hq3 y exy hS J K (zg_fz_of hx) hm⟩⟩)
        obtain ⟨⟨fI, fR⟩, -, fB, fH⟩ := id hF
        obtain ⟨hn, -, hr⟩ := id fR
        refine zy_221 (I := J) (L := K) (n := n) (s := s) hY (by omega) hn fH (fun k hk => ⟨(hr k hk).2.2.1, by have := zg_40 hI.1 (hr k hk).2.2.2.1.1; omega⟩) (fun k hk hst hbk => ⟨hY, ?_⟩)
        have hlt := zq_a_lt (M := 65536) (h := zg_h) (x := y) (k := k) (by omega)
        refine ⟨vp_in_nI hlt (by omega), ?_⟩
        rw [nI_clamp (by omega)]
        dsimp only
        rcases hst with e | ⟨i, e, es⟩
        · have neg := zg_Tb_none.mp e
          refine ⟨fun h => ?_, fun _ => ⟨_, rfl, hq2 y n s ps c J K exy hS (zg_F_tab hF) (zq_none fH hbk e) (zg_fz_of hx)⟩⟩
          rw [Int32.lt_iff_toInt_lt, zy_i0] at neg
          rw [Int32.le_iff_toInt_le, zy_i0] at h
          omega
        · obtain ⟨-, e2, hi31⟩ := zg_Tb_some e
          have hi := fH.2.1 _ _ hlt e
          rw [e2, nI_clamp hi31, (hr i hi).1]
          exact ⟨fun _ => ⟨vp_in_nI (by omega) (by omega), _, rfl, hq y n s ps c J K i exy hS (zg_F_tab hF) hi es (zg_fz_of hx)⟩, fun h => absurd (by rw [← nI_0, nI_leI (by omega) hi31]; omega) h⟩
      | succ r ih =>
        intro p hp hall
        have hpP : p < P := by omega
        have hP := hI.1
        obtain ⟨e, hf⟩ := uI.2.2 p hpP
        have l8 := zy_len8 hf
        have dl := zg_d_lt (s := y) (p := p)
        refine sg_241_17 hY _ _ ⟨fun h => ?_, fun _ => zy_219 hY (by omega) (by omega) ⟨hY, vp_in_nI (by omega) (by omega), ?_⟩⟩
        · rw [uI.2.1, nI_leI (by omega) (by omega)] at h; omega
        rw [nI_clamp (by omega)]
        dsimp only
        rw [e]
        refine zy_171 hY (by omega) ⟨hY, ?_⟩
        rw [nI_leI (by omega) (by omega), nI_1]
        refine ⟨fun h => ih (p + 1) (by omega) (fun q hq => ?_), fun h => ⟨_, rfl, hq1 (Or.inr ⟨y, hy, exy, fun hS => h (hS.2 p hpP)⟩) _ fz0⟩⟩
        by_cases z : q = p
        · rw [z]; exact h
        · exact hall q (by omega)
    exact key P 0 (by omega) (fun q hq => by omega)
  · rw [zy_b0] at h
    exact hq1 (Or.inl h) _ fz0
theorem zy_238 (hY : zx_lay Y) (hI : zg_I I P f) (hb : b < 2 ^ 31) (h8 : I 132 8 = nI b) {x y : Int32}
    (hq1 : ¬ (zy_one P x = true ∧ 1 ≤ y.toInt ∧ y.toInt ≤ 8) → ∀ J, zg_fz I J L L → Q (-1) (J, L, Y))
    (hq3 : ∀ J K, zy_one P x = true ∧ 1 ≤ y.toInt ∧ y.toInt ≤ 8 → zg_fz I J L K → zg_many f P b → Q (-3) (J, K, Y))
    (hq : ∀ w m n s ps c J K v ws, w < P → x = nI w → 1 ≤ m → m ≤ 8 → y = nI m → zg_tab f P b n s ps c → zg_fz I J L K → zg_al2 f P n s c (fun i => decide (zy_len (f w) - zg_d (s i) w = m)) m v ws → Q v (zg_row J ws, K, Y)) :
    zx_Ci l E (d + 5) 238 [.ref 132, .int x, .int y] (I, L, Y) Q := by
  have uI := zg_I_u hI (v := 0)
  have fz0 : zg_fz I (zx_u2 I 132 0 0) L L := ⟨fun x k _ _ _ _ x5 _ _ => zy_u2_ne x5, fun _ _ _ => rfl⟩
  have l1 : (1 : Int64).toInt = 1 := by decide
  have l8 : (8 : Int64).toInt = 8 := by decide
  refine sg_238_0 hY _ _ (zy_175 hY hI.1 uI.2.1 ⟨hY, fun h => sg_238_25 hY ⟨_, rfl, hq1 (fun q => ?_) _ fz0⟩, fun h => ?_⟩)
  · rw [zy_b0] at h
    rw [h] at q; exact absurd q.1 (by decide)
  · rw [zy_b1] at h
    refine zy_167i hY (b := decide (1 ≤ y.toInt ∧ y.toInt ≤ 8)) (by rw [l1, l8]) ⟨hY, fun h2 => ?_, fun h2 => sg_238_25 hY ⟨_, rfl, hq1 (fun q => ?_) _ fz0⟩⟩
    · rw [zy_b1, decide_eq_true_eq] at h2
      dsimp only
      rw [zy_u2_nk (show (8 : Nat) ≠ 0 by omega), h8]
      refine zy_226F hY uI hb (fun n s ps c J K hF hx => ⟨hY, fun _ => ?_, fun h => absurd h (by decide)⟩) (fun J K hx hm => ⟨hY, fun h => absurd rfl h, fun _ => ⟨_, rfl, hq3 J K ⟨h, h2⟩ (zg_fz_of hx) hm⟩⟩)
      have fz := zg_fz_of hx
      obtain ⟨w, hw, rfl⟩ := zy_one_at h (by have := hI.1; omega)
      obtain ⟨m, hm, rfl⟩ := nI_of (x := y) (fun q => by rw [Int32.lt_iff_toInt_lt, zy_i0] at q; omega)
      rw [nI_toInt hm] at h2
      have ok := zg_fb_ok (W := fun i => decide (zy_len (f w) - zg_d (s i) w = m)) (κ := zg_kl f P s c) n
      refine zy_238_46 (I := J) (L := K) hY hF.1.1 hF.1.2 hw (by omega) (fun e => ⟨_, rfl, ?_⟩) (fun B e hB => ⟨_, rfl, ?_⟩)
      · rw [e] at ok
        exact hq w m n s ps c J K (-2) none hw rfl (by omega) (by omega) rfl (zg_F_tab hF) fz (Or.inl ⟨ok, rfl, rfl⟩)
      · rw [e] at ok
        exact hq w m n s ps c J K _ (some _) hw rfl (by omega) (by omega) rfl (zg_F_tab hF) fz (Or.inr ⟨B, ok.1, ok.2.1, ok.2.2.1, rfl, rfl⟩)
    · rw [zy_b0, decide_eq_false_iff_not] at h2
      exact h2 q.2
end YRj
