/-! ===== search: fewest, river: class = reference ===== -/
theorem zg_fb_cong {W W' : Nat → Bool} {κ κ' : Nat → Nat} : ∀ {n : Nat}, (∀ g, g < n → W g = W' g ∧ κ g = κ' g) → zg_fb W κ n = zg_fb W' κ' n
  | 0, _ => rfl
  | n + 1, h => by
    have ih := zg_fb_cong (W := W) (W' := W') (κ := κ) (κ' := κ') (n := n) (fun g hg => h g (by omega))
    have ok := zg_fb_ok (W := W') (κ := κ') n
    obtain ⟨h1, h2⟩ := h n (by omega)
    rw [zg_fb, zg_fb, ih, h1]
    cases e : zg_fb W' κ' n with
    | none => rfl
    | some b =>
      rw [e] at ok
      show (if W' n = true then (if κ n < κ b then some n else some b) else some b) = (if W' n = true then (if κ' n < κ' b then some n else some b) else some b)
      rw [h2, (h b (by have := ok.1; omega)).2]
theorem zh_tk_cong {wy wy' : Nat → Nat → Nat} {G : Nat} (h : ∀ g, g < G → wy g = wy' g) : ∀ i, zh_tk wy G i = zh_tk wy' G i
  | 0 => rfl
  | i + 1 => by
    have ih := zh_tk_cong h i
    have e : zg_fb (fun g => decide (wy g (zh_tk wy G i g) ≠ 0)) (fun g => wy g (zh_tk wy G i g)) G = zg_fb (fun g => decide (wy' g (zh_tk wy' G i g) ≠ 0)) (fun g => wy' g (zh_tk wy' G i g)) G := zg_fb_cong (fun g hg => by rw [ih, h g hg]; exact ⟨rfl, rfl⟩)
    rw [zh_tk, zh_tk, e, ih]
theorem zh_nc_cong {wy wy' : Nat → Nat → Nat} {G : Nat} (h : ∀ g, g < G → wy g = wy' g) (i : Nat) : zh_nc wy G i = zh_nc wy' G i := by
  have ih := zh_tk_cong h i
  have e : zg_fb (fun g => decide (wy g (zh_tk wy G i g) ≠ 0)) (fun g => wy g (zh_tk wy G i g)) G = zg_fb (fun g => decide (wy' g (zh_tk wy' G i g) ≠ 0)) (fun g => wy' g (zh_tk wy' G i g)) G := zg_fb_cong (fun g hg => by rw [ih, h g hg]; exact ⟨rfl, rfl⟩)
  have ok := zg_fb_ok (W := fun g => decide (wy' g (zh_tk wy' G i g) ≠ 0)) (κ := fun g => wy' g (zh_tk wy' G i g)) G
  unfold zh_nc
  rw [e]
  cases e2 : zg_fb (fun g => decide (wy' g (zh_tk wy' G i g) ≠ 0)) (fun g => wy' g (zh_tk wy' G i g)) G with
  | none => rfl
  | some g =>
    rw [e2] at ok
    show wy g (zh_tk wy G i g) = wy' g (zh_tk wy' G i g)
    rw [ih, h g ok.1]
section YK
variable {l : Launch} {E : zx_E} {d : Nat} {I : Nat → Nat → Int32} {L : Nat → Nat → Int64} {Y : zx_Y} {Qo : Option Value → zx_M → Prop} {Q : Int32 → zx_M → Prop} {Ql : Int64 → zx_M → Prop} {Qv : zx_M → Prop} {f f0 : Nat → Nat} {P S b B k r : Nat} {H : List (Nat × Nat)} {vs : List Int32}
theorem zv_calls {π fr : Nat → Nat} {N G n : Nat} {s ps c : Nat → Nat} {ns : Nat → Nat} {ss pps cs : Nat → Nat → Nat} {Wg : Nat → Nat → Bool} {Wt : Nat → Bool} {v : Int32} {ws : Option (List Int32)} (hO : zv_O f π fr P N G b ns ss pps cs) (ht : zg_tab f P b n s ps c) (hW : ∀ i, i < n → (Wt (s i) = true ↔ ∀ g, g < G → Wg g (zh_pj f P (zs_g f π N fr G) g (s i)) = true)) (ha : zg_aw f P b n s c (fun i => Wt (s i)) v ws) :
    (∀ g, g < G → zg_fb (fun j => Wg g (ss g j)) (zg_kc f 10 (ss g) (cs g)) (ns g) = none → v = -2 ∧ ws = none) ∧
    ∀ Bs : Nat → Nat, (∀ g, g < G → zg_fb (fun j => Wg g (ss g j)) (zg_kc f 10 (ss g) (cs g)) (ns g) = some (Bs g)) → v = nI (zg_sm (fun g => cs g (Bs g)) G) ∧ ws = some (zg_rw (zh_nc (fun g => zh_wy f 10 (ss g) (pps g) (cs g) (Bs g)) G) (zg_sm (fun g => cs g (Bs g)) G)) := by
  have hT := zv_TT hO ht
  have hF := hO.1.1
  have hr := hO.2.1
  have h80 : ∀ t, zg_ls f P t ≤ 80 := fun t => zg_ls_80 hF.1 (fun p hp => (hF.2.1 p (by have := hF.1; omega)).1)
  refine ⟨fun g hg e => ?_, fun Bs hB => ?_⟩
  · rcases ha with ⟨-, a2, a3⟩ | ⟨Bt, a, w, c1, c2, -⟩
    · exact ⟨a2, a3⟩
    · exfalso
      obtain ⟨rr, r1, r2⟩ := zh_r_ex hT c1 hg
      have := (hW Bt c1).mp c2 g hg
      rw [← r2] at this
      have ok := zg_fb_ok (W := fun j => Wg g (ss g j)) (κ := zg_kc f 10 (ss g) (cs g)) (ns g)
      rw [e] at ok
      rw [ok rr r1] at this; cases this
  · have okB : ∀ g, g < G → zh_fbest (fun j => Wg g (ss g j)) (zg_kc f P (ss g) (cs g)) (ns g) (Bs g) := fun g hg => by
      have ok := zg_fb_ok (W := fun j => Wg g (ss g j)) (κ := zg_kc f 10 (ss g) (cs g)) (ns g)
      rw [hB g hg, zv_kc hF] at ok
      exact ok
    rcases ha with ⟨a1, -, -⟩ | ⟨Bt, a, w, c1, c2, c3, c4, c5, c6, c7⟩
    · exfalso
      obtain ⟨i, i1, i2⟩ := zh_i_ex hT (r := Bs) (fun g hg => (okB g hg).1)
      have := (hW i i1).mpr (fun g hg => by rw [i2 g hg]; exact (okB g hg).2.1)
      have w := a1 i i1
      dsimp only at w
      rw [w] at this; cases this
    · obtain ⟨rb, hrb⟩ := zh_pick (G := G) (fun g hg => zh_r_ex hT c1 hg)
      have eqb := zh_best (Wt := Wt) (Wg := Wg) (B := Bs) (Bst := Bt) hT h80 hW (fun g hg => ⟨(okB g hg).1, (okB g hg).2.1, (okB g hg).2.2.1⟩) c3 c1 c2 rfl hrb
      have cD : c Bt = zg_sm (fun g => cs g (Bs g)) G := by
        rw [zh_c_sum hT c1 hrb]
        exact zg_sm_cong (fun g hg => (eqb g hg).1.symm)
      have way := zh_way (Wt := Wt) (Wg := Wg) (B := Bs) (Bst := Bt) hF.1 hT ht.2.1 hO.2.2 h80 hW okB c3 c1 c2 c4 c5 (c Bt) (Nat.le_refl _)
      rw [c6, c7, cD]
      refine ⟨rfl, ?_⟩
      congr 1
      rw [← cD]
      refine zg_rw_cong (fun i hi => ?_)
      rw [way.2 i hi]
      exact (zh_nc_cong (fun g hg => zv_wy hF (hO.2.2 g hg).2.2 (fun j hj => (hr g hg j hj).1) (okB g hg).1) i).symm
theorem zj_fewest (hY : zx_lay Y) (hC : zc_C I P S b r H) (hR : zc_R I vs) (hS : zs_S1 I L Y f0 B k) (hk : k ≤ 600) {x : Int64} (hq : ∀ f, zs_En I Y f B (k + 1) Q) :
    zx_Ci l E (d + 7) 137 [.ref 3, .long x] (I, L, Y) (fun v M1 => zx_lay M1.2.2 ∧ zx_Ci l E (d + 7) 235 [.ref 132, .long x] M1 (fun w M2 => w = v ∧ Q v M2)) := by
  obtain ⟨f, hp⟩ := zv_of hC
  obtain ⟨hF, ⟨h9, hz⟩, hI, ⟨h7, h8, hS2⟩, ⟨b3, b4, b1, b2⟩, hsd⟩ := id hp
  have hP := hF.1
  refine sg_137_0 hY _ (zy_156 hY hP h7 ⟨hY, fun z => ?_, fun z => ⟨_, rfl, hY, ?_⟩⟩)
  · rw [zv_d0] at z
    obtain ⟨y, hy, ex⟩ := zg_du_ok z
    have y40 := zg_40 hP hy
    have exy := ex
    refine zv_look hY hp hS hk (fun J K Y' hY' hS1 fk y1 y2 hno => ⟨hY', fun z => absurd z (by decide), fun _ => ⟨_, rfl, hY', ?_⟩⟩) (fun J K Y' N π G fr lg q R Z sb mk at_ ns ss pps cs hY' hS1 fk y1 y2 hno hZ hO e15 e16 lt => ⟨hY', fun _ => ?_, fun z => absurd (nI_pos' lt) z⟩)
    · have jp := zv_Ik hp fk
      exact zy_235 (d := d + 2) hY' jp.2.2.1 (by omega) jp.2.2.2.2.1.2.1 (fun w => by rw [w] at z; cases z) (fun _ J' K' fz _ => ⟨rfl, zv_fin (ws0 := none) hY' (fun _ w => (by cases w)) hR fk hS1 y1 y2 hq fz⟩) (fun y' n s ps c J' K' v ws _ _ ht => absurd ht (hno n s ps c))
    · have jp := zv_Ik hp fk
      have ref : ∀ J0, (∀ a x, ¬ (64 ≤ a ∧ a ≤ 70) → J0 a x = J a x) → ∀ K', (∀ a x, a ≠ 22 → K' a x = K a x) → ∀ (v : Int32) (ws0 : Option (List Int32)), (∀ ws, ws0 = some ws → ws.length ≤ 12) → (∀ n s ps c v' ws', zg_tab f P b n s ps c → zg_aw f P b n s c (fun i => zg_al (zg_due f s y i) P) v' ws' → v' = v ∧ ws' = ws0) → zx_Ci l E (d + 7) 235 [.ref 132, .long x] (zs_tl J0 ws0, K', Y') (fun w M2 => w = v ∧ Q v M2) := fun J0 j0 K' k1 v ws0 hl hv => by
        have fk0 : zs_fk I J0 L K := ⟨fun a x a1 a2 => by rw [j0 a x (by omega)]; exact fk.1 a x a1 a2, fk.2⟩
        have tp := zv_tl (ws0 := ws0) (zv_Ik hp fk0)
        refine zy_235 (d := d + 2) hY' tp.2.2.1 (by omega) tp.2.2.2.2.1.2.1 (fun w => by rw [w] at z; cases z) (fun _ J' K'' fz hm => absurd hm hno) (fun y' n s ps c J' K'' v' ws' hy' ey ht fz hal => ?_)
        have e : y' = y := nL_inj (by have := zg_40 hP hy'; omega) (by omega) (ey.symm.trans exy)
        rw [e] at hal
        obtain ⟨v1, v2⟩ := hv n s ps c v' ws' ht hal
        rw [v1, v2]
        exact ⟨rfl, zv_fin hY' hl hR fk0 (zs_S1_same hS1 (fun a x h => j0 a x (by omega)) (fun a x h => k1 a x (by omega))) y1 y2 hq fz⟩
      rw [ex] at *
      refine zy_98 (d := d + 5) hY' hZ.1.1 hZ.1.2.1 hZ.1.2.2.2 jp.2.1.1 hP jp.2.2.2.1.1 hF.2.2 (y := y) (by omega) (fun hall K' k1 hWm => ⟨hY', fun w => absurd w (by decide), fun _ => ?_⟩) (fun p hp2 hlt K' k1 => ⟨hY', fun _ => ⟨_, rfl, hY', ref J (fun _ _ _ => rfl) K' k1 (-2) none (fun _ w => (by cases w)) (fun n s ps c v' ws' ht hal => ?_)⟩, fun w => absurd rfl w⟩)
      · have hZ' := zs_Z_cong hZ (fun _ _ _ => rfl) (fun a x h => k1 a x (by omega))
        have link : ∀ n s ps c v' ws', zg_tab f P b n s ps c → zg_aw f P b n s c (fun i => zg_al (zg_due f s y i) P) v' ws' → _ := fun n s ps c v' ws' ht hal => zv_calls (Wt := fun t => zg_al (fun p => decide (zg_d y p ≤ zy_len (f p) - zg_d t p)) P) (Wg := fun g t => zs_wb (fun i => if i < N then zy_len (f (π i)) - zg_d y (π i) else 0) (fun _ => 0) false (zs_in fr g) (zs_dl π fr g t)) hO ht (zv_due hO ht hall) hal
        refine zy_102 (d := d + 3) hY' hZ' hWm (fun g hg e J0 j0 => ⟨hY', _, rfl, hY', ref J0 j0 K' k1 (-2) none (fun _ w => (by cases w)) (fun n s ps c v' ws' ht hal => (link n s ps c v' ws' ht hal).1 g hg e)⟩) (fun Bs hB J0 j0 => ⟨hY', _, rfl, hY', ?_⟩)
        exact ref J0 j0 K' k1 _ (some _) (fun ws w => by cases w; rw [zg_rw_len]; omega) (fun n s ps c v' ws' ht hal => (link n s ps c v' ws' ht hal).2 Bs hB)
      · rcases hal with ⟨-, a2, a3⟩ | ⟨Bt, a, w, c1, c2, -⟩
        · exact ⟨a2, a3⟩
        · exfalso
          rw [zg_al_iff] at c2
          have := c2 p hp2
          unfold zg_due at this
          rw [decide_eq_true_eq] at this
          omega
  · have z : zg_du P x = false := by
      cases e : zg_du P x with
      | false => rfl
      | true => exact absurd (zv_d0.mpr e) z
    refine zy_235 (d := d + 2) hY hI (by omega) b4 (fun _ J fz => ⟨rfl, zv_no hR hS hY hq fz⟩) (fun w => by rw [z] at w; cases w) (fun y' n s ps c J' K' v ws hy' e => ?_)
    exfalso
    have : zg_du P x = true := by
      rw [e]
      unfold zg_du
      have y40 := zg_40 hP hy'
      rw [nL_toInt (by omega), decide_eq_true_eq]
      refine ⟨by omega, ?_⟩
      have cast : ((16 ^ P : Nat) : Int) = (16 : Int) ^ P := Int.natCast_pow _ _
      rw [← cast]
      exact Int.ofNat_lt.mpr hy'
    rw [z] at this; cases this
theorem zj_river (hY : zx_lay Y) (hC : zc_C I P S b r H) (hR : zc_R I vs) (hS : zs_S1 I L Y f0 B k) (hk : k ≤ 600) (hq : ∀ f, zs_En I Y f B (k + 1) Q) :
    zx_Ci l E (d + 7) 139 [.ref 3] (I, L, Y) (fun v M1 => zx_lay M1.2.2 ∧ zx_Ci l E (d + 7) 237 [.ref 132] M1 (fun w M2 => w = v ∧ Q v M2)) := by
  obtain ⟨f, hp⟩ := zv_of hC
  obtain ⟨hF, ⟨h9, hz⟩, hI, ⟨h7, h8, hS2⟩, ⟨b3, b4, b1, b2⟩, hsd⟩ := id hp
  have hP := hF.1
  have sd1 : ∀ J : Nat → Nat → Int32, (∀ p, p < P → J 136 p = nI (S.testBit p).toNat) → ∀ p, p < P → J 136 p = nI ((fun p => (S.testBit p).toNat) p) ∧ (fun p => (S.testBit p).toNat) p ≤ 1 := fun J h p hp => ⟨h p hp, by show (S.testBit p).toNat ≤ 1; cases S.testBit p <;> decide⟩
  refine sg_139_0 hY (zv_look hY hp hS hk (fun J K Y' hY' hS1 fk y1 y2 hno => ⟨hY', fun z => absurd z (by decide), fun _ => ⟨_, rfl, hY', ?_⟩⟩) (fun J K Y' N π G fr lg q R Z sb mk at_ ns ss pps cs hY' hS1 fk y1 y2 hno hZ hO e15 e16 lt => ⟨hY', fun _ => ?_, fun z => absurd (nI_pos' lt) z⟩))
  · have jp := zv_Ik hp fk
    exact zy_237 (d := d + 2) hY' jp.2.2.1 (by omega) jp.2.2.2.2.1.2.1 (sd1 J jp.2.2.2.2.2) (fun J' K' fz _ => ⟨rfl, zv_fin (ws0 := none) hY' (fun _ w => (by cases w)) hR fk hS1 y1 y2 hq fz⟩) (fun n s ps c J' K' v ws ht => absurd ht (hno n s ps c))
  · have jp := zv_Ik hp fk
    have ref : ∀ J0, (∀ a x, ¬ (64 ≤ a ∧ a ≤ 70) → J0 a x = J a x) → ∀ K', (∀ a x, a ≠ 22 → K' a x = K a x) → ∀ (v : Int32) (ws0 : Option (List Int32)), (∀ ws, ws0 = some ws → ws.length ≤ 12) → (∀ n s ps c v' ws', zg_tab f P b n s ps c → zg_aw f P b n s c (fun i => zg_al (zg_ov f s (fun p => (S.testBit p).toNat) i) P) v' ws' → v' = v ∧ ws' = ws0) → zx_Ci l E (d + 7) 237 [.ref 132] (zs_tl J0 ws0, K', Y') (fun w M2 => w = v ∧ Q v M2) := fun J0 j0 K' k1 v ws0 hl hv => by
      have fk0 : zs_fk I J0 L K := ⟨fun a x a1 a2 => by rw [j0 a x (by omega)]; exact fk.1 a x a1 a2, fk.2⟩
      have tp := zv_tl (ws0 := ws0) (zv_Ik hp fk0)
      refine zy_237 (d := d + 2) hY' tp.2.2.1 (by omega) tp.2.2.2.2.1.2.1 (sd1 _ tp.2.2.2.2.2) (fun J' K'' fz hm => absurd hm hno) (fun n s ps c J' K'' v' ws' ht fz hal => ?_)
      obtain ⟨v1, v2⟩ := hv n s ps c v' ws' ht hal
      rw [v1, v2]
      exact ⟨rfl, zv_fin hY' hl hR fk0 (zs_S1_same hS1 (fun a x h => j0 a x (by omega)) (fun a x h => k1 a x (by omega))) y1 y2 hq fz⟩
    refine zy_99 (d := d + 5) hY' hZ.1.1 hZ.1.2.1 hZ.1.2.2.2 jp.2.1.1 hP jp.2.2.2.1.1 hF.2.2 (S := S) hS2 jp.2.2.2.1.2.1 (fun hall K' k1 hWm => ⟨hY', fun w => absurd w (by decide), fun _ => ?_⟩) (fun p hp2 hp0 hsb K' k1 => ⟨hY', fun _ => ⟨_, rfl, hY', ref J (fun _ _ _ => rfl) K' k1 (-2) none (fun _ w => (by cases w)) (fun n s ps c v' ws' ht hal => ?_)⟩, fun w => absurd rfl w⟩)
    · have hZ' := zs_Z_cong hZ (fun _ _ _ => rfl) (fun a x h => k1 a x (by omega))
      have link : ∀ n s ps c v' ws', zg_tab f P b n s ps c → zg_aw f P b n s c (fun i => zg_al (zg_ov f s (fun p => (S.testBit p).toNat) i) P) v' ws' → _ := fun n s ps c v' ws' ht hal => zv_calls (Wt := fun t => zg_al (fun p => decide (((S.testBit p).toNat + (zy_len (f p) - zg_d t p)) % 2 = 1)) P) (Wg := fun g t => zs_wb (fun i => if i < N then zy_len (f (π i)) else 0) (fun i => if i < N then (zy_len (f (π i)) + (S.testBit (π i)).toNat + 1) % 2 else 0) true (zs_in fr g) (zs_dl π fr g t)) hO ht (zv_side hO ht (sd := fun p => (S.testBit p).toNat) (fun _ _ => rfl) hall) hal
      refine zy_102 (d := d + 3) hY' hZ' hWm (fun g hg e J0 j0 => ⟨hY', _, rfl, hY', ref J0 j0 K' k1 (-2) none (fun _ w => (by cases w)) (fun n s ps c v' ws' ht hal => (link n s ps c v' ws' ht hal).1 g hg e)⟩) (fun Bs hB J0 j0 => ⟨hY', _, rfl, hY', ?_⟩)
      exact ref J0 j0 K' k1 _ (some _) (fun ws w => by cases w; rw [zg_rw_len]; omega) (fun n s ps c v' ws' ht hal => (link n s ps c v' ws' ht hal).2 Bs hB)
    · rcases hal with ⟨-, a2, a3⟩ | ⟨Bt, a, w, c1, c2, -⟩
      · exact ⟨a2, a3⟩
      · exfalso
        rw [zg_al_iff] at c2
        have := c2 p hp2
        unfold zg_ov at this
        dsimp only at this
        rw [decide_eq_true_eq, hsb, hp0, zy_len_0, Nat.zero_sub] at this
        exact absurd this (by decide)
end YK
