/-! ===== search: comes, losses, alone: class = reference ===== -/
theorem zs_S1_up {I : Nat → Nat → Int32} {L : Nat → Nat → Int64} {Y : zx_Y} {f : Nat → Nat} {B k : Nat} (h : zs_S1 I L Y f B k) : zs_S1 I L Y f B (k + 1) := by
  obtain ⟨N, π, G, fr, lg, q, R, Z, mk, nf, a1, a2, a3, ⟨c1, c2⟩, c3⟩ := h
  exact ⟨N, π, G, fr, lg, q, R, Z, mk, nf, a1, a2, a3, ⟨by omega, c2⟩, c3⟩
theorem zv_cmp0 {y : Int64} : lg_cmp y 0 = 0 ↔ y.toBitVec.toNat = 0 := by
  have h1 := (zy_lg (x := y) (y := 0)).1
  have h2 := (zy_lg (x := y) (y := 0)).2
  rw [Int64.lt_iff_toInt_lt, show (0 : Int64).toInt = 0 by decide] at h1
  rw [Int64.lt_iff_toInt_lt, show (0 : Int64).toInt = 0 by decide] at h2
  have e : y.toInt = 0 ↔ y.toBitVec.toNat = 0 := by
    constructor
    · intro h
      have : y = 0 := Int64.toInt_inj.mp (by rw [h]; decide)
      rw [this]; decide
    · intro h
      have : y = 0 := Int64.toBitVec_inj.mp (BitVec.eq_of_toNat_eq (by rw [h]; decide))
      rw [this]; decide
  rw [← e]
  constructor
  · intro z
    rw [z] at h1 h2
    have a1 : ¬ y.toInt < 0 := fun q => absurd (h1.mpr q) (by decide)
    have a2 : ¬ 0 < y.toInt := fun q => absurd (h2.mpr q) (by decide)
    omega
  · intro z
    have a1 : ¬ lg_cmp y 0 < 0 := fun q => by have := h1.mp q; omega
    have a2 : ¬ 0 < lg_cmp y 0 := fun q => by have := h2.mp q; omega
    rw [Int32.lt_iff_toInt_lt, zy_i0] at a1 a2
    apply Int32.toInt_inj.mp
    rw [zy_i0]; omega
theorem zv_du {P : Nat} (hP : P ≤ 10) {x : Int64} : lg_cmp (x.toUInt64 >>> ((4 * nI P).toInt64.toUInt64 &&& Int64.toUInt64 63)).toInt64 0 = 0 ↔ zg_du P x = true := by
  have sh : (((4 * nI P).toInt64.toUInt64) &&& (Int64.toUInt64 63)).toNat % 64 = 4 * P := by
    have : ∀ p : Fin 11, (((4 * nI p.1).toInt64.toUInt64) &&& (Int64.toUInt64 63)).toNat % 64 = 4 * p.1 := by decide
    exact this ⟨P, by omega⟩
  have e : (x.toUInt64 >>> ((4 * nI P).toInt64.toUInt64 &&& Int64.toUInt64 63)).toInt64.toBitVec.toNat = x.toBitVec.toNat / 16 ^ P := by
    show (x.toUInt64 >>> ((4 * nI P).toInt64.toUInt64 &&& Int64.toUInt64 63)).toNat = _
    rw [UInt64.toNat_shiftRight, sh, Nat.shiftRight_eq_div_pow, Nat.pow_mul]
    rfl
  have p1 : 0 < 16 ^ P := Nat.pow_pos (by omega)
  have p2 : 16 ^ P ≤ 16 ^ 10 := Nat.pow_le_pow_right (by omega) hP
  rw [zv_cmp0, e, Nat.div_eq_zero_iff]
  unfold zg_du
  rw [decide_eq_true_eq]
  have ti : x.toInt = if 2 * x.toBitVec.toNat < 2 ^ 64 then (x.toBitVec.toNat : Int) else (x.toBitVec.toNat : Int) - 2 ^ 64 := by
    show x.toBitVec.toInt = _
    rw [BitVec.toInt_eq_toNat_cond]; rfl
  have lt := x.toBitVec.isLt
  have cast : ((16 ^ P : Nat) : Int) = (16 : Int) ^ P := Int.natCast_pow _ _
  rw [← cast, ti]
  constructor
  · intro h
    have : x.toBitVec.toNat < 16 ^ P := by omega
    rw [if_pos (by omega)]
    omega
  · intro h
    right
    by_cases z : 2 * x.toBitVec.toNat < 2 ^ 64
    · rw [if_pos z] at h; omega
    · rw [if_neg z] at h; omega
section YI
variable {l : Launch} {E : zx_E} {d : Nat} {I : Nat → Nat → Int32} {L : Nat → Nat → Int64} {Y : zx_Y} {Qo : Option Value → zx_M → Prop} {Q : Int32 → zx_M → Prop} {Ql : Int64 → zx_M → Prop} {Qv : zx_M → Prop} {f f0 : Nat → Nat} {P S b B k r : Nat} {H : List (Nat × Nat)} {vs : List Int32}
theorem zy_156 (hY : zx_lay Y) (hP : P ≤ 10) (h7 : I 8 7 = nI P) {x : Int64} (hq : Q (if zg_du P x then 0 else 1) (I, L, Y)) : zx_Ci l E d 156 [.ref 3, .long x] (I, L, Y) Q := by
  refine sg_156_0 hY _ ?_
  rw [h7, zv_du hP]
  cases e : zg_du P x with
  | true => rw [e] at hq; exact ⟨fun _ => ⟨_, rfl, hq⟩, fun z => absurd rfl z⟩
  | false => rw [e] at hq; exact ⟨fun z => (by cases z), fun _ => ⟨_, rfl, hq⟩⟩
theorem zv_d0 {e : Bool} : ((if e then (0 : Int32) else 1) = 0) ↔ e = true := by cases e <;> decide
/-- nothing was told, nothing was sought -/
theorem zv_no (hR : zc_R I vs) (hS : zs_S1 I L Y f0 B k) (hY : zx_lay Y) {Q : Int32 → zx_M → Prop} (hq : ∀ f, zs_En I Y f B (k + 1) Q) {v : Int32} {J : Nat → Nat → Int32} {K : Nat → Nat → Int64} (fz : zg_fz I J L K) : Q v (J, K, Y) :=
  hq f0 v J K Y vs hY (zv_Rz hR fz) (zs_S1_up (zv_S1z hS fz)) (fun a x a1 a2 a3 a4 a5 a6 a7 => fz.1 a x (by omega) (by omega) (by omega) (by omega) (by omega) (by omega) (by omega)) (fun _ _ _ _ => rfl) (by omega)
theorem zj_comes (hY : zx_lay Y) (hC : zc_C I P S b r H) (hR : zc_R I vs) (hS : zs_S1 I L Y f0 B k) (hk : k ≤ 600) {x : Int64} (hq : ∀ f, zs_En I Y f B (k + 1) Q) :
    zx_Ci l E (d + 7) 142 [.ref 3, .long x] (I, L, Y) (fun v M1 => zx_lay M1.2.2 ∧ zx_Ci l E (d + 7) 241 [.ref 132, .long x] M1 (fun w M2 => w = v ∧ Q v M2)) := by
  obtain ⟨f, hp⟩ := zv_of hC
  obtain ⟨hF, ⟨h9, hz⟩, hI, ⟨h7, h8, hS2⟩, ⟨b3, b4, b1, b2⟩, hsd⟩ := id hp
  have hP := hF.1
  refine sg_142_0 hY _ (zy_156 hY hP h7 ⟨hY, fun z => ?_, fun z => ⟨_, rfl, hY, ?_⟩⟩)
  · rw [zv_d0] at z
    obtain ⟨y, hy, ex⟩ := zg_du_ok z
    have y40 := zg_40 hP hy
    have exy := ex
    rw [ex]
    have yu : ∀ y', x = nL y' → y' < 16 ^ P → y' = y := fun y' e h => nL_inj (by have := zg_40 hP h; omega) (by omega) (e.symm.trans exy)
    have loop : ∀ r p, p + r = P → (∀ q, q < p → zg_d y q ≤ zy_len (f q)) → zx_To l E (d + 7) 142 12 [some (.ref 3), some (.long (nL y)), none, some (.int (nI p))] [] (I, L, Y) (fun r M1 => ∃ v, r = some (.int v) ∧ zx_lay M1.2.2 ∧ zx_Ci l E (d + 7) 241 [.ref 132, .long (nL y)] M1 (fun w M2 => w = v ∧ Q v M2)) := by
      intro r
      induction r with
      | zero =>
        intro p hp2 hall
        have ep : p = P := by omega
        subst ep
        have yS : zg_S f p y := ⟨hy, hall⟩
        refine sg_142_12 hY _ _ ⟨fun _ => ?_, fun h => absurd (by rw [h7]; exact (nI_leI (by omega) (by omega)).mpr (Nat.le_refl _)) h⟩
        refine zv_look hY hp hS hk (fun J K Y' hY' hS1 fk y1 y2 hno => ⟨hY', fun z => absurd z (by decide), fun _ => ⟨_, rfl, hY', ?_⟩⟩) (fun J K Y' N π G fr lg q R Z sb mk at_ ns ss pps cs hY' hS1 fk y1 y2 hno hZ hO e15 e16 lt => ⟨hY', fun _ => ?_, fun z => absurd (nI_pos' lt) z⟩)
        · have jp := zv_Ik hp fk
          refine zy_241 (d := d + 2) hY' jp.2.2.1 (by omega) jp.2.2.2.2.1.2.1 (fun w => ?_) (fun y' e yS' J' K' fz _ => ⟨rfl, hq f _ J' K' Y' vs hY' (zv_Rz (zv_Rk hR fk) fz) (zv_S1z hS1 fz) (zv_fj fk fz) y1 y2⟩) (fun y' n s ps c J' K' _ _ ht => absurd ht (hno n s ps c)) (fun y' n s ps c J' K' i _ _ ht => absurd ht (hno n s ps c))
          exfalso
          rcases w with w | ⟨y', w1, w2, w3⟩
          · rw [exy] at z
            rw [w] at z; cases z
          · have := nL_inj (by have := zg_40 hP w1; omega) (by omega) w2.symm
            rw [this] at w3; exact w3 yS
        · have jp := zv_Ik hp fk
          have ref : ∀ v : Int32, (∀ n s ps c, zg_tab f p b n s ps c → (∀ i, i < n → s i ≠ y) → v = -2) → (∀ n s ps c, zg_tab f p b n s ps c → ∀ i, i < n → s i = y → v = nI (c i)) → zx_Ci l E (d + 7) 241 [.ref 132, .long (nL y)] (J, K, Y') (fun w M2 => w = v ∧ Q v M2) := fun v v1 v2 => by
            refine zy_241 (d := d + 2) hY' jp.2.2.1 (by omega) jp.2.2.2.2.1.2.1 (fun w => ?_) (fun y' e yS' J' K' fz hm => absurd hm hno) (fun y' n s ps c J' K' e yS' ht hn2 fz => ?_) (fun y' n s ps c J' K' i e yS' ht hi ei fz => ?_)
            · exfalso
              rcases w with w | ⟨y', w1, w2, w3⟩
              · rw [exy] at z
                rw [w] at z; cases z
              · have := nL_inj (by have := zg_40 hP w1; omega) (by omega) w2.symm
                rw [this] at w3; exact w3 yS
            · have ey := nL_inj (by have := zg_40 hP yS'.1; omega) (by omega) e.symm
              rw [ey] at hn2
              have ev := v1 n s ps c ht hn2
              rw [ev]
              exact ⟨rfl, hq f _ J' K' Y' vs hY' (zv_Rz (zv_Rk hR fk) fz) (zv_S1z hS1 fz) (zv_fj fk fz) y1 y2⟩
            · have ey := nL_inj (by have := zg_40 hP yS'.1; omega) (by omega) e.symm
              rw [ey] at ei
              have ev := v2 n s ps c ht i hi ei
              rw [ev]
              exact ⟨rfl, hq f _ J' K' Y' vs hY' (zv_Rz (zv_Rk hR fk) fz) (zv_S1z hS1 fz) (zv_fj fk fz) y1 y2⟩
          refine zy_107 (d := d + 4) hY' hZ (y := y) (by omega) (fun g hg hno2 => ⟨hY', _, rfl, hY', ref _ (fun _ _ _ _ _ _ => rfl) (fun n s ps c ht i hi ei => ?_)⟩) (fun Bs hB => ⟨hY', _, rfl, hY', ref _ (fun n s ps c ht hn2 => ?_) (fun n s ps c ht i hi ei => ?_)⟩)
          · obtain ⟨j, j1, j2⟩ := (zv_comes hO ht yS).2.1 i hi ei g hg
            exact absurd j2 (hno2 j j1)
          · exact absurd hB ((zv_comes hO ht yS).2.2 hn2 Bs)
          · rw [(zv_comes hO ht yS).1 i hi ei Bs hB]
      | succ r ih =>
        intro p hp2 hall
        have fp := (hF.2.1 p (by omega)).1
        have l8 := zy_len8 fp
        have dl := zg_d_lt (s := y) (p := p)
        refine sg_142_12 hY _ _ ⟨fun h => ?_, fun _ => ⟨vp_in_nI (by omega) (by omega), ?_⟩⟩
        · rw [h7, nI_leI (by omega) (by omega)] at h; omega
        rw [nI_clamp (by omega), h9 p (by omega)]
        refine zy_161 hY fp ⟨hY, zy_157 hY (by omega) (by omega) ⟨hY, ?_⟩⟩
        rw [nI_leI (by omega) (by omega), nI_1]
        refine ⟨fun w => ih (p + 1) (by omega) (fun q hq2 => ?_), fun w => ⟨_, rfl, hY, ?_⟩⟩
        · by_cases e : q = p
          · rw [e]; exact w
          · exact hall q (by omega)
        · have nS : ∀ y', x = nL y' → zg_S f P y' → False := fun y' e yS' => by
            rw [yu y' e yS'.1] at yS'
            exact w (yS'.2 p (by omega))
          refine zy_241 (d := d + 2) hY hI (by omega) b4 (fun w J fz => ⟨rfl, zv_no hR hS hY hq fz⟩) (fun y' e yS' => (nS y' (exy.trans e) yS').elim) (fun y' n s ps c J' K' e yS' => (nS y' (exy.trans e) yS').elim) (fun y' n s ps c J' K' i e yS' => (nS y' (exy.trans e) yS').elim)
    exact loop P 0 (by omega) (fun q hq => by omega)
  · have z : zg_du P x = false := by
      cases e : zg_du P x with
      | false => rfl
      | true => exact absurd (zv_d0.mpr e) z
    have nd : ∀ y', x = nL y' → zg_S f P y' → False := fun y' e yS' => by
      have : zg_du P x = true := by
        rw [e]
        unfold zg_du
        have y40 := zg_40 hP yS'.1
        rw [nL_toInt (by omega), decide_eq_true_eq]
        refine ⟨by omega, ?_⟩
        have cast : ((16 ^ P : Nat) : Int) = (16 : Int) ^ P := Int.natCast_pow _ _
        rw [← cast]
        exact Int.ofNat_lt.mpr yS'.1
      rw [z] at this; cases this
    refine zy_241 (d := d + 2) hY hI (by omega) b4 (fun _ J fz => ⟨rfl, zv_no hR hS hY hq fz⟩) (fun y' e yS' => (nd y' e yS').elim) (fun y' n s ps c J' K' e yS' => (nd y' e yS').elim) (fun y' n s ps c J' K' i e yS' => (nd y' e yS').elim)
end YI
