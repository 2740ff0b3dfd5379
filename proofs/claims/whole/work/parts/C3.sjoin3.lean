/-! ===== search: losses, alone: class = reference ===== -/
def zs_tl (J : Nat → Nat → Int32) : Option (List Int32) → Nat → Nat → Int32
  | none => J
  | some ws => zy_tell J ws
section YJ
variable {l : Launch} {E : zx_E} {d : Nat} {I : Nat → Nat → Int32} {L : Nat → Nat → Int64} {Y : zx_Y} {Qo : Option Value → zx_M → Prop} {Q : Int32 → zx_M → Prop} {Ql : Int64 → zx_M → Prop} {Qv : zx_M → Prop} {f f0 : Nat → Nat} {P S b B k r : Nat} {H : List (Nat × Nat)} {vs : List Int32}
theorem zv_fj3 {J J' : Nat → Nat → Int32} {L' K K0 K' : Nat → Nat → Int64} (h1 : zs_fk I J L' K) (h2 : zg_fz J J' K0 K') : zs_fj I J' := fun a x a1 a2 a3 a4 a5 a6 a7 => by
  rw [h2.1 a x (by omega) (by omega) (by omega) (by omega) (by omega) (by omega) (by omega)]; exact h1.1 a x a1 a2
/-- a row told by both, or none -/
theorem zv_fin {Y' : zx_Y} {J J' : Nat → Nat → Int32} {K K' K'' : Nat → Nat → Int64} {ws0 : Option (List Int32)} {v : Int32} (hY' : zx_lay Y') (hl : ∀ ws, ws0 = some ws → ws.length ≤ 12) (hR : zc_R I vs) (fk : zs_fk I J L K) (hS1 : zs_S1 J K' Y' f B (k + 1)) (y1 : ∀ a x, a < 160 → a ≠ 22 → Y'.1 a x = Y.1 a x) (y2 : Y'.2.2.2.1 ≤ Y.2.2.2.1 + 5) (hq : ∀ f, zs_En I Y f B (k + 1) Q) (fz : zg_fz (zs_tl J ws0) J' K' K'') : Q v (zg_row J' ws0, K'', Y') := by
  cases ws0 with
  | none => exact hq f v J' K'' Y' vs hY' (zv_Rz (zv_Rk hR fk) fz) (zv_S1z hS1 fz) (zv_fj3 fk fz) y1 y2
  | some ws => exact hq f v _ K'' Y' ws hY' (zv_told (hl ws rfl) fz) (zv_S1t hS1 fz) (zv_fj2 fk fz) y1 y2
theorem zv_tl {J : Nat → Nat → Int32} {ws0 : Option (List Int32)} (h : zv_P J P S b f) : zv_P (zs_tl J ws0) P S b f := by
  cases ws0 with
  | none => exact h
  | some ws => exact zv_tell h
/-- the class's wanted rows, and the reference's -/
theorem zv_losses {π fr : Nat → Nat} {N G n : Nat} {s ps c : Nat → Nat} {ns : Nat → Nat} {ss pps cs : Nat → Nat → Nat} {Wg : Nat → Nat → Bool} {W : Nat → Bool} {m : Nat} {v : Int32} {ws : Option (List Int32)} (hO : zv_O f π fr P N G b ns ss pps cs) (ht : zg_tab f P b n s ps c) (hW : ∀ i, i < n → (W i = true ↔ ∀ g, g < G → Wg g (zh_pj f P (zs_g f π N fr G) g (s i)) = true)) (ha : zg_al2 f P n s c W m v ws) :
    (∀ g, g < G → zg_fb (fun j => Wg g (ss g j)) (zg_kl f 10 (ss g) (cs g)) (ns g) = none → v = -2 ∧ ws = none) ∧
    ∀ Bs : Nat → Nat, (∀ g, g < G → zg_fb (fun j => Wg g (ss g j)) (zg_kl f 10 (ss g) (cs g)) (ns g) = some (Bs g)) → v = nI (zg_sm (fun g => zg_ls f P (ss g (Bs g))) G) - nI m ∧ ws = some [nI (zg_sm (fun g => cs g (Bs g)) G)] := by
  have hT := zv_TT hO ht
  have hF := hO.1.1
  have hr := hO.2.1
  have hWs : ∀ i, i < n → (W (zg_ix s n (s i)) = true ↔ ∀ g, g < G → Wg g (zh_pj f P (zs_g f π N fr G) g (s i)) = true) := fun i hi => by
    rw [zg_ix_ok hT.2.2.1.1 hi rfl]; exact hW i hi
  refine ⟨fun g hg e => ?_, fun Bs hB => ?_⟩
  · rcases ha with ⟨-, a2, a3⟩ | ⟨Bt, c1, c2, -⟩
    · exact ⟨a2, a3⟩
    · exfalso
      obtain ⟨rr, r1, r2⟩ := zh_r_ex hT c1 hg
      have := (hW Bt c1).mp c2 g hg
      rw [← r2] at this
      have ok := zg_fb_ok (W := fun j => Wg g (ss g j)) (κ := zg_kl f 10 (ss g) (cs g)) (ns g)
      rw [e] at ok
      rw [ok rr r1] at this; cases this
  · have okB : ∀ g, g < G → Bs g < ns g ∧ Wg g (ss g (Bs g)) = true ∧ ∀ j, j < ns g → Wg g (ss g j) = true → zg_kl f P (ss g) (cs g) (Bs g) ≤ zg_kl f P (ss g) (cs g) j := fun g hg => by
      have ok := zg_fb_ok (W := fun j => Wg g (ss g j)) (κ := zg_kl f 10 (ss g) (cs g)) (ns g)
      rw [hB g hg, zv_kl hF] at ok
      exact ⟨ok.1, ok.2.1, ok.2.2.1⟩
    rcases ha with ⟨a1, -, -⟩ | ⟨Bt, c1, c2, c3, c4, c5⟩
    · exfalso
      obtain ⟨i, i1, i2⟩ := zh_i_ex hT (r := Bs) (fun g hg => (okB g hg).1)
      have := (hW i i1).mpr (fun g hg => by rw [i2 g hg]; exact (okB g hg).2.1)
      rw [a1 i i1] at this; cases this
    · have cW : W (zg_ix s n (s Bt)) = true := by rw [zg_ix_ok hT.2.2.1.1 c1 rfl]; exact c2
      obtain ⟨e1, e2⟩ := zh_bestl (Wt := fun t => W (zg_ix s n t)) (Wg := Wg) (B := Bs) (Bst := Bt) hT (fun t => zg_ls_80 hF.1 (fun p hp => (hF.2.1 p (by have := hF.1; omega)).1)) (fun i hi => (ht.2.2 i hi).2) (fun g hg j hj => (hr g hg j hj).2) hWs okB (fun i hi hw => by
        rw [zg_ix_ok hT.2.2.1.1 hi rfl] at hw
        exact c3 i hi hw) c1 cW
      rw [c4, c5, e1, e2]
      exact ⟨rfl, rfl⟩
theorem zj_losses (hY : zx_lay Y) (hC : zc_C I P S b r H) (hR : zc_R I vs) (hS : zs_S1 I L Y f0 B k) (hk : k ≤ 600) {x : Int64} (hq : ∀ f, zs_En I Y f B (k + 1) Q) :
    zx_Ci l E (d + 7) 138 [.ref 3, .long x] (I, L, Y) (fun v M1 => zx_lay M1.2.2 ∧ zx_Ci l E (d + 7) 236 [.ref 132, .long x] M1 (fun w M2 => w = v ∧ Q v M2)) := by
  obtain ⟨f, hp⟩ := zv_of hC
  obtain ⟨hF, ⟨h9, hz⟩, hI, ⟨h7, h8, hS2⟩, ⟨b3, b4, b1, b2⟩, hsd⟩ := id hp
  have hP := hF.1
  refine sg_138_0 hY _ (zy_156 hY hP h7 ⟨hY, fun z => ?_, fun z => ⟨_, rfl, hY, ?_⟩⟩)
  · rw [zv_d0] at z
    obtain ⟨y, hy, ex⟩ := zg_du_ok z
    have y40 := zg_40 hP hy
    have exy := ex
    refine zv_look hY hp hS hk (fun J K Y' hY' hS1 fk y1 y2 hno => ⟨hY', fun z => absurd z (by decide), fun _ => ⟨_, rfl, hY', ?_⟩⟩) (fun J K Y' N π G fr lg q R Z sb mk at_ ns ss pps cs hY' hS1 fk y1 y2 hno hZ hO e15 e16 lt => ⟨hY', fun _ => ?_, fun z => absurd (nI_pos' lt) z⟩)
    · have jp := zv_Ik hp fk
      exact zy_236 (d := d + 2) hY' jp.2.2.1 (by omega) jp.2.2.2.2.1.2.1 (fun w => by rw [w] at z; cases z) (fun _ J' K' fz _ => ⟨rfl, zv_fin (ws0 := none) hY' (fun _ w => (by cases w)) hR fk hS1 y1 y2 hq fz⟩) (fun y' n s ps c J' K' v ws _ _ ht => absurd ht (hno n s ps c))
    · have jp := zv_Ik hp fk
      have N10 := hZ.1.2.1.1
      have ref : ∀ K', (∀ a x, a ≠ 22 → K' a x = K a x) → ∀ (v : Int32) (ws0 : Option (List Int32)), (∀ ws, ws0 = some ws → ws.length ≤ 12) → (∀ n s ps c v' ws', zg_tab f P b n s ps c → zg_al2 f P n s c (fun i => zg_al (zg_due f s y i) P) 0 v' ws' → v' = v ∧ ws' = ws0) → zx_Ci l E (d + 7) 236 [.ref 132, .long x] (zs_tl J ws0, K', Y') (fun w M2 => w = v ∧ Q v M2) := fun K' k1 v ws0 hl hv => by
        have tp := zv_tl (ws0 := ws0) jp
        refine zy_236 (d := d + 2) hY' tp.2.2.1 (by omega) tp.2.2.2.2.1.2.1 (fun w => by rw [w] at z; cases z) (fun _ J' K'' fz hm => absurd hm hno) (fun y' n s ps c J' K'' v' ws' hy' ey ht fz hal => ?_)
        have e : y' = y := nL_inj (by have := zg_40 hP hy'; omega) (by omega) (ey.symm.trans exy)
        rw [e] at hal
        obtain ⟨v1, v2⟩ := hv n s ps c v' ws' ht hal
        rw [v1, v2]
        exact ⟨rfl, zv_fin hY' hl hR fk (zs_S1_same hS1 (fun _ _ _ => rfl) (fun a x h => k1 a x (by omega))) y1 y2 hq fz⟩
      rw [ex] at *
      refine zy_98 (d := d + 5) hY' hZ.1.1 hZ.1.2.1 hZ.1.2.2.2 jp.2.1.1 hP jp.2.2.2.1.1 hF.2.2 (y := y) (by omega) (fun hall K' k1 hWm => ⟨hY', fun w => absurd w (by decide), fun _ => ?_⟩) (fun p hp2 hlt K' k1 => ⟨hY', fun _ => ⟨_, rfl, hY', ref K' k1 (-2) none (fun _ w => (by cases w)) (fun n s ps c v' ws' ht hal => ?_)⟩, fun w => absurd rfl w⟩)
      · have hZ' := zs_Z_cong hZ (fun _ _ _ => rfl) (fun a x h => k1 a x (by omega))
        have link : ∀ n s ps c v' ws', zg_tab f P b n s ps c → zg_al2 f P n s c (fun i => zg_al (zg_due f s y i) P) 0 v' ws' → _ := fun n s ps c v' ws' ht hal => zv_losses (Wg := fun g t => zs_wb (fun i => if i < N then zy_len (f (π i)) - zg_d y (π i) else 0) (fun _ => 0) false (zs_in fr g) (zs_dl π fr g t)) hO ht (zv_due hO ht hall) hal
        refine zy_105 (d := d + 4) hY' hZ' hWm (fun g hg e => ⟨hY', _, rfl, hY', ref K' k1 (-2) none (fun _ w => (by cases w)) (fun n s ps c v' ws' ht hal => (link n s ps c v' ws' ht hal).1 g hg e)⟩) (fun Bs hB => ⟨hY', _, rfl, hY', ?_⟩)
        refine ref K' k1 _ (some [nI (zg_sm (fun g => cs g (Bs g)) G)]) (fun ws w => by cases w; simp) (fun n s ps c v' ws' ht hal => ?_)
        have := (link n s ps c v' ws' ht hal).2 Bs hB
        rw [this.1, this.2, nI_0, Int32.sub_zero]
        refine ⟨?_, rfl⟩
        congr 1
        exact zg_sm_cong (fun g _ => (zv_ls hF).symm)
      · rcases hal with ⟨-, a2, a3⟩ | ⟨Bt, c1, c2, -⟩
        · exact ⟨a2, a3⟩
        · exfalso
          rw [zg_al_iff] at c2
          have := c2 p hp2
          unfold zg_due at this
          rw [decide_eq_true_eq] at this
          omega
  · have z : zg_du P x = false := by
      cases e : zg_du P x with
      | false => rfl
      | true => exact absurd (zv_d0.mpr e) z
    refine zy_236 (d := d + 2) hY hI (by omega) b4 (fun _ J fz => ⟨rfl, zv_no hR hS hY hq fz⟩) (fun w => by rw [z] at w; cases w) (fun y' n s ps c J' K' v ws hy' e => ?_)
    exfalso
    have : zg_du P x = true := by
      rw [e]
      unfold zg_du
      have y40 := zg_40 hP hy'
      rw [nL_toInt (by omega), decide_eq_true_eq]
      refine ⟨by omega, ?_⟩
      have cast : ((16 ^ P : Nat) : Int) = (16 : Int) ^ P := Int.natCast_pow _ _
      rw [← cast]
      exact Int.ofNat_lt.mpr hy'
    rw [z] at this; cases this
theorem zj_alone (hY : zx_lay Y) (hC : zc_C I P S b r H) (hR : zc_R I vs) (hS : zs_S1 I L Y f0 B k) (hk : k ≤ 600) {x y : Int32} (hq : ∀ f, zs_En I Y f B (k + 1) Q) :
    zx_Ci l E (d + 7) 140 [.ref 3, .int x, .int y] (I, L, Y) (fun v M1 => zx_lay M1.2.2 ∧ zx_Ci l E (d + 7) 238 [.ref 132, .int x, .int y] M1 (fun w M2 => w = v ∧ Q v M2)) := by
  obtain ⟨f, hp⟩ := zv_of hC
  obtain ⟨hF, ⟨h9, hz⟩, hI, ⟨h7, h8, hS2⟩, ⟨b3, b4, b1, b2⟩, hsd⟩ := id hp
  have hP := hF.1
  have hf : ∀ p, p < P → zy_len (f p) ≤ 8 := fun p hp => zs_F8 hF (by omega)
  have no : ¬ (zy_one P x = true ∧ 1 ≤ y.toInt ∧ y.toInt ≤ 8) → zx_Ci l E (d + 7) 238 [.ref 132, .int x, .int y] (I, L, Y) (fun w M2 => w = -1 ∧ Q (-1) M2) := fun hn => by
    refine zy_238 (d := d + 2) hY hI (by omega) b4 (fun _ J fz => ⟨rfl, zv_no hR hS hY hq fz⟩) (fun J K w => absurd w hn) (fun w m n s ps c J K v ws w1 w2 w3 w4 w5 => absurd ⟨?_, ?_, ?_⟩ hn)
    · rw [w2]; unfold zy_one; rw [nI_toInt (by omega)]; exact decide_eq_true (by omega)
    · rw [w5, nI_toInt (by omega)]; omega
    · rw [w5, nI_toInt (by omega)]; omega
  have i1 : (1 : Int32).toInt = 1 := by decide
  have i8 : (8 : Int32).toInt = 8 := by decide
  refine sg_140_0 hY _ _ (zy_1 hY hP h7 ⟨hY, fun w => ⟨_, rfl, hY, no (fun q => ?_)⟩, fun w => ⟨fun w2 => ⟨_, rfl, hY, no (fun q => ?_)⟩, fun w2 => ⟨fun w3 => ?_, fun w3 => ⟨_, rfl, hY, no (fun q => ?_)⟩⟩⟩⟩)
  · rw [zy_b0] at w; rw [w] at q; cases q.1
  · rw [Int32.lt_iff_toInt_lt, i1] at w2; omega
  · rw [zy_b1] at w
    rw [Int32.lt_iff_toInt_lt, i1] at w2
    rw [Int32.le_iff_toInt_le, i8] at w3
    obtain ⟨p, hpP, rfl⟩ := zy_one_at w (by omega)
    obtain ⟨m, hm, rfl⟩ := nI_of (x := y) (fun q => by rw [Int32.lt_iff_toInt_lt, zy_i0] at q; omega)
    rw [nI_toInt hm] at w2 w3
    refine zv_look hY hp hS hk (fun J K Y' hY' hS1 fk y1 y2 hno => ⟨hY', fun z => absurd z (by decide), fun _ => ⟨_, rfl, hY', ?_⟩⟩) (fun J K Y' N π G fr lg q R Z sb mk at_ ns ss pps cs hY' hS1 fk y1 y2 hno hZ hO e15 e16 lt => ⟨hY', fun _ => ?_, fun z => absurd (nI_pos' lt) z⟩)
    · have jp := zv_Ik hp fk
      refine zy_238 (d := d + 2) hY' jp.2.2.1 (by omega) jp.2.2.2.2.1.2.1 (fun u => absurd ⟨w, ?_, ?_⟩ u) (fun J' K' _ fz _ => ⟨rfl, zv_fin (ws0 := none) hY' (fun _ w => (by cases w)) hR fk hS1 y1 y2 hq fz⟩) (fun w m n s ps c J' K' v ws _ _ _ _ _ ht => absurd ht (hno n s ps c))
      · rw [nI_toInt hm]; omega
      · rw [nI_toInt hm]; omega
    · have jp := zv_Ik hp fk
      have ref : ∀ (v : Int32) (ws0 : Option (List Int32)), (∀ ws, ws0 = some ws → ws.length ≤ 12) → (∀ n s ps c v' ws', zg_tab f P b n s ps c → zg_al2 f P n s c (fun i => decide (zy_len (f p) - zg_d (s i) p = m)) m v' ws' → v' = v ∧ ws' = ws0) → zx_Ci l E (d + 7) 238 [.ref 132, .int (nI p), .int (nI m)] (zs_tl J ws0, K, Y') (fun w M2 => w = v ∧ Q v M2) := fun v ws0 hl hv => by
        have tp := zv_tl (ws0 := ws0) jp
        refine zy_238 (d := d + 2) hY' tp.2.2.1 (by omega) tp.2.2.2.2.1.2.1 (fun u => absurd ⟨w, by rw [nI_toInt hm]; omega, by rw [nI_toInt hm]; omega⟩ u) (fun J' K'' _ fz hm => absurd hm hno) (fun p' m' n s ps c J' K'' v' ws' u1 u2 u3 u4 u5 ht fz hal => ?_)
        have ep : p' = p := (nI_eq (by omega) (by omega)).mp u2.symm
        have em : m' = m := (nI_eq (by omega) hm).mp u5.symm
        rw [ep, em] at hal
        obtain ⟨v1, v2⟩ := hv n s ps c v' ws' ht hal
        rw [v1, v2]
        exact ⟨rfl, zv_fin hY' hl hR fk hS1 y1 y2 hq fz⟩
      refine zy_106 (d := d + 5) hY' hZ (by omega) (by omega) (fun hno2 => ⟨hY', _, rfl, hY', ref (-2) none (fun _ w => (by cases w)) (fun n s ps c v' ws' ht hal => ?_)⟩) (fun g hg eg hle => ?_)
      · rcases hal with ⟨-, a2, a3⟩ | ⟨Bt, c1, c2, -⟩
        · exact ⟨a2, a3⟩
        · exfalso
          rw [decide_eq_true_eq] at c2
          rcases hno2 with h0 | h0
          · rw [h0, zy_len_0] at c2; omega
          · omega
      · -- the row of the group
        have link : ∀ n s ps c v' ws', zg_tab f P b n s ps c → zg_al2 f P n s c (fun i => decide (zy_len (f p) - zg_d (s i) p = m)) m v' ws' → _ := fun n s ps c v' ws' ht hal => zv_losses (Wg := fun h t => if h = g then decide (zg_d t p = zy_len (f p) - m) else true) hO ht (fun i hi => by
          have iS := (ht.2.2 i hi).1
          have := iS.2 p hpP
          rw [decide_eq_true_eq]
          constructor
          · intro e h hh
            by_cases eh : h = g
            · rw [if_pos eh, zh_pj_d hf hpP, if_pos (by rw [eh]; exact eg)]
              exact decide_eq_true (by omega)
            · rw [if_neg eh]
          · intro h
            have := h g hg
            rw [if_pos rfl, zh_pj_d hf hpP, if_pos eg, decide_eq_true_eq] at this
            omega) hal
        have row0 : ∀ h, h < G → h ≠ g → zg_fb (fun j => if h = g then decide (zg_d (ss h j) p = zy_len (f p) - m) else true) (zg_kl f 10 (ss h) (cs h)) (ns h) = some 0 ∧ cs h 0 = 0 ∧ zg_ls f P (ss h 0) = 0 := fun h hh ne => by
          have hBt := (hO.2.2 h hh).2.2
          have z0 : zg_ls f P (ss h 0) = 0 := by
            rw [hBt.1.2.1]
            have key : ∀ n, n ≤ P → zg_sm (fun p => zy_len (f p) - zg_d (zg_st f P) p) n = 0 := by
              intro n
              induction n with
              | zero => exact fun _ => rfl
              | succ n ih => intro hn; rw [zg_sm, ih (by omega), zg_st_d hf (by omega)]; omega
            exact key P (Nat.le_refl _)
          have k0 : zg_kl f 10 (ss h) (cs h) 0 = 0 := by
            rw [zv_kl hF]; unfold zg_kl; rw [z0, hBt.1.2.2.1]
          refine ⟨?_, hBt.1.2.2.1, z0⟩
          refine zg_fb_stay (i := 1) ?_ (ns h) hBt.1.1 (fun k _ _ _ => by rw [k0]; exact Nat.zero_le _)
          rw [zg_fb, if_neg ne, if_pos rfl]; rfl
        have feq : (fun j => if g = g then decide (zg_d (ss g j) p = zy_len (f p) - m) else true) = fun j => decide (zg_d (ss g j) p = zy_len (f p) - m) := by funext j; rw [if_pos rfl]
        cases e : zg_fb (fun j => decide (zg_d (ss g j) p = zy_len (f p) - m)) (zg_kl f 10 (ss g) (cs g)) (ns g) with
        | none =>
          show zx_lay Y' ∧ _
          exact ⟨hY', _, rfl, hY', ref (-2) none (fun _ w => (by cases w)) (fun n s ps c v' ws' ht hal => (link n s ps c v' ws' ht hal).1 g hg (by rw [feq]; exact e))⟩
        | some b0 =>
          show zx_lay Y' ∧ _
          refine ⟨hY', _, rfl, hY', ref _ (some [nI (cs g b0)]) (fun ws w => by cases w; simp) (fun n s ps c v' ws' ht hal => ?_)⟩
          have := (link n s ps c v' ws' ht hal).2 (fun h => if h = g then b0 else 0) (fun h hh => by
            by_cases eh : h = g
            · rw [if_pos eh, eh, feq]; exact e
            · rw [if_neg eh]; exact (row0 h hh eh).1)
          have s1 : zg_sm (fun h => zg_ls f P (ss h (if h = g then b0 else 0))) G = zg_ls f 10 (ss g b0) := by
            rw [zv_ls hF]
            have : zg_sm (fun h => zg_ls f P (ss h (if h = g then b0 else 0))) G = zg_sm (fun h => if g = h then zg_ls f P (ss g b0) else 0) G := zg_sm_cong (fun h hh => by
              by_cases eh : h = g
              · rw [if_pos eh, if_pos eh.symm, eh]
              · rw [if_neg eh, if_neg (fun q => eh q.symm)]; exact (row0 h hh eh).2.2)
            rw [this, zg_sm_one, if_pos hg]
          have s2 : zg_sm (fun h => cs h (if h = g then b0 else 0)) G = cs g b0 := by
            have : zg_sm (fun h => cs h (if h = g then b0 else 0)) G = zg_sm (fun h => if g = h then cs g b0 else 0) G := zg_sm_cong (fun h hh => by
              by_cases eh : h = g
              · rw [if_pos eh, if_pos eh.symm, eh]
              · rw [if_neg eh, if_neg (fun q => eh q.symm)]; exact (row0 h hh eh).2.1)
            rw [this, zg_sm_one, if_pos hg]
          rw [s1, s2] at this
          exact this
  · rw [Int32.le_iff_toInt_le, i8] at w3; omega
end YJ
