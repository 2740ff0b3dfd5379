/-! ===== search: rows on a way to the best ===== -/
/-- a way down from row i, each step one deeper, to a row of T at depth cB -/
def zg_gd (nx : Nat → List Nat) (s c : Nat → Nat) (n cB : Nat) (T : Nat → Prop) (i : Nat) : Prop := ∃ v, zq_D nx s c n (cB - c i) i v ∧ T v
theorem zg_gd_rec {nx : Nat → List Nat} {s c : Nat → Nat} {n cB : Nat} {T : Nat → Prop} (hT : ∀ v, T v → c v = cB) {i : Nat} (hi : i < n) :
    zg_gd nx s c n cB T i ↔ T i ∨ (c i < cB ∧ ∃ j, j < n ∧ s j ∈ nx (s i) ∧ c j = c i + 1 ∧ zg_gd nx s c n cB T j) := by
  unfold zg_gd
  by_cases h : c i < cB
  · rw [show cB - c i = cB - (c i + 1) + 1 by omega]
    constructor
    · rintro ⟨v, ⟨y, y1, y2, y3, y4⟩, hv⟩
      exact Or.inr ⟨h, y, y1, y2, y3, v, by rw [y3]; exact y4, hv⟩
    · rintro (q | ⟨-, y, y1, y2, y3, v, y4, hv⟩)
      · have := hT i q; omega
      · exact ⟨v, ⟨y, y1, y2, y3, by rw [y3] at y4; exact y4⟩, hv⟩
  · rw [show cB - c i = 0 by omega]
    constructor
    · rintro ⟨v, ⟨e, -⟩, hv⟩
      rw [e]; exact Or.inl hv
    · rintro (q | ⟨q, -⟩)
      · exact ⟨i, ⟨rfl, hi⟩, q⟩
      · omega
/-- p's call leads from row i to row j -/
def zg_ed (f : Nat → Nat) (P b : Nat) (s c : Nat → Nat) (n i p j : Nat) : Prop := zg_e f P b (s i) p = true ∧ j < n ∧ s j = zg_mv P (s i) (zg_m f P (s i) p) ∧ c j = c i + 1
theorem zg_ed_nx {f : Nat → Nat} {P b n i j : Nat} {s c : Nat → Nat} (hu : ∀ i k, i < n → k < n → s i = s k → i = k) (hi : i < n) (hj : j < n) (hc : c j = c i + 1) : s j ∈ zg_nx f P b (s i) ↔ ∃ p, p < P ∧ zg_ed f P b s c n i p j := by
  constructor
  · intro h
    unfold zg_nx at h
    obtain ⟨p, hp, e⟩ := List.mem_map.mp h
    refine ⟨p, List.mem_range.mp hp, ?_⟩
    cases he : zg_e f P b (s i) p with
    | true => rw [he, if_pos rfl] at e; exact ⟨he, hj, e.symm, hc⟩
    | false =>
      rw [he, if_neg (by decide)] at e
      have := hu i j hi hj e
      rw [this] at hc; omega
  · rintro ⟨p, hp, he, -, es, -⟩
    have := zg_nx_at (f := f) (b := b) (s := s i) hp
    rw [he, if_pos rfl, ← es] at this
    exact List.mem_of_getElem? this
def zg_mb (v : Int32) (p : Prop) : Prop := (v = 1 ∧ p) ∨ (v = 0 ∧ ¬ p)
theorem zg_mb_iff {v : Int32} {p q : Prop} (h : zg_mb v p) (e : p ↔ q) : zg_mb v q := by
  rcases h with ⟨a, b⟩ | ⟨a, b⟩
  · exact Or.inl ⟨a, e.mp b⟩
  · exact Or.inr ⟨a, fun z => b (e.mpr z)⟩
def zg_pd : Nat → Int32
  | 0 => -1
  | i + 1 => nI i
theorem zg_pd_add {i : Nat} : nI i + (-1) = zg_pd i := by
  cases i with
  | zero => decide
  | succ i => rw [← nI_1, Int32.add_assoc, show (1 : Int32) + (-1) = 0 by decide, Int32.add_zero]; rfl
theorem zg_pd_sub {i : Nat} : nI i - 1 = zg_pd i := by rw [Int32.sub_eq_add_neg]; exact zg_pd_add
theorem zg_Tb_cong {J J' : Nat → Nat → Int32} (h : ∀ k, J' 148 k = J 148 k) : zg_Tb J' = zg_Tb J := by
  funext a
  unfold zg_Tb
  rw [h]
/-- a full table -/
def zg_F (I : Nat → Nat → Int32) (L : Nat → Nat → Int64) (f : Nat → Nat) (P b n : Nat) (s ps c : Nat → Nat) : Prop :=
  (zg_I I P f ∧ zg_R I L f P n s c) ∧ (b < 2 ^ 31 ∧ I 132 34 = nI b) ∧ zq_B (zg_st f P) (zg_nx f P b) s ps c n n 0 ∧ zq_H 65536 zg_h s (zg_Tb I) n
theorem zg_F_cong {I J : Nat → Nat → Int32} {L : Nat → Nat → Int64} {f : Nat → Nat} {P b n : Nat} {s ps c : Nat → Nat} (h : zg_F I L f P b n s ps c) (hJ : ∀ a k, a ≠ 149 → ¬ (a = 132 ∧ k = 1) → a ≠ 133 → J a k = I a k) : zg_F J L f P b n s ps c := by
  obtain ⟨⟨⟨a1, a2, a3⟩, a4⟩, ⟨b1, b2⟩, c1, c2⟩ := h
  refine ⟨⟨⟨a1, by rw [hJ _ _ (by omega) (by omega) (by omega)]; exact a2, fun p hp => by rw [hJ _ _ (by omega) (by omega) (by omega)]; exact a3 p hp⟩, zg_R_cong a4 (hJ _ _ (by omega) (by omega) (by omega)) (fun k => ⟨hJ _ _ (by omega) (by omega) (by omega), hJ _ _ (by omega) (by omega) (by omega)⟩)⟩, ⟨b1, by rw [hJ _ _ (by omega) (by omega) (by omega)]; exact b2⟩, c1, ?_⟩
  rw [zg_Tb_cong (fun k => hJ _ _ (by omega) (by omega) (by omega))]; exact c2
section YRf
variable {l : Launch} {E : zx_E} {d : Nat} {I : Nat → Nat → Int32} {L : Nat → Nat → Int64} {Y : zx_Y} {Qo : Option Value → zx_M → Prop} {Q : Int32 → zx_M → Prop} {Qv : zx_M → Prop} {P b n : Nat} {f s ps c : Nat → Nat}
/-- the slot of a child tells its row -/
theorem zy_221c (hY : zx_lay Y) (hF : zg_F I L f P b n s ps c) {i p : Nat} (hi : i < n) (hp : p < P) (he : zg_e f P b (s i) p = true)
    (hq : ∀ a j, a < 65536 → j < n → s j = zg_mv P (s i) (zg_m f P (s i) p) → I 148 a = nI j → Q (nI a) (I, L, Y)) : zx_Ci l E d 221 [.ref 132, .long (nL (zg_mv P (s i) (zg_m f P (s i) p)))] (I, L, Y) Q := by
  obtain ⟨⟨hI, hR⟩, -, hB, hH⟩ := hF
  obtain ⟨hn, -, hr⟩ := hR
  have tS := zg_mv_S (m := zg_m f P (s i) p) (hr i hi).2.2.2.1
  have t40 := zg_40 hI.1 tS.1
  refine zy_221 (n := n) (s := s) hY (by omega) hn hH (fun k hk => ⟨(hr k hk).2.2.1, by have := zg_40 hI.1 (hr k hk).2.2.2.1.1; omega⟩) (fun k hk hst hbk => ?_)
  have hlt := zq_a_lt (M := 65536) (h := zg_h) (x := zg_mv P (s i) (zg_m f P (s i) p)) (k := k) (by omega)
  rcases hst with e | ⟨j, e, es⟩
  · have no := zq_none hH hbk e
    obtain ⟨-, -, -, ⟨g3, -⟩, -⟩ := hB
    have at_ := zg_nx_at (f := f) (b := b) (s := s i) hp
    rw [he, if_pos rfl] at at_
    obtain ⟨k, k1, k2⟩ := g3 i hi _ (List.mem_of_getElem? at_)
    exact absurd k2 (no k k1)
  · exact hq _ j hlt (hH.2.1 _ _ hlt e) es (zg_Tb_some e).2.1
theorem zy_229 (hY : zx_lay Y) (hF : zg_F I L f P b n s ps c) {i p : Nat} (hi : i < n) (hp : p < P) (he : zg_e f P b (s i) p = true)
    (hq : ∀ j, j < n → s j = zg_mv P (s i) (zg_m f P (s i) p) → Q (if !decide (I 149 j = 0) && decide (c j = c i + 1) then 1 else 0) (I, L, Y)) : zx_Ci l E (d + 2) 229 [.ref 132, .int (nI i), .int (nI (zy_orN (zg_m f P (s i) p) P))] (I, L, Y) Q := by
  obtain ⟨⟨hI, hR⟩, -, hB, hH⟩ := id hF
  obtain ⟨hn, -, hr⟩ := id hR
  obtain ⟨a1, -, a3, a4, a5⟩ := hr i hi
  have l80 : ∀ i, zg_ls f P (s i) ≤ 80 := fun i => zg_ls_80 hI.1 (fun p hp => (hI.2.2 p hp).2)
  have li := l80 i
  have hin : vp_in (nI i) 20000 := vp_in_nI (by omega) (by omega)
  refine sg_229_0 hY _ _ ⟨hin, ?_⟩
  rw [nI_clamp (by omega), a3]
  refine zy_223 hY hI.1 hI.2.1 a4.1 (fun q _ hm => zg_m_pos a4 hp (zg_e_pos he) hm) ⟨hY, zy_221c hY hF hi hp he (fun a j ha hj es ea => ⟨hY, vp_in_nI ha (by omega), ?_⟩)⟩
  have qq := hq j hj es
  obtain ⟨j1, -, -, -, j5⟩ := hr j hj
  have lj := l80 j
  have hinj : vp_in (nI j) 20000 := vp_in_nI (by omega) (by omega)
  dsimp only
  rw [nI_clamp (by omega), ea, nI_clamp (by omega), j1, a1, nI_1, nI_eq (by omega) (by omega)]
  refine ⟨hinj, fun h => ⟨_, rfl, ?_⟩, fun h => ⟨hinj, hin, fun h2 => ⟨_, rfl, ?_⟩, fun h2 => ⟨_, rfl, ?_⟩⟩⟩
  · rw [decide_eq_true h] at qq; exact qq
  · rw [decide_eq_false h, decide_eq_false h2] at qq; exact qq
  · rw [decide_eq_false h, decide_eq_true h2] at qq; exact qq
/-- rows of the best kind -/
def zg_tg (f : Nat → Nat) (P : Nat) (s c : Nat → Nat) (W : Nat → Prop) (B : Nat) (v : Nat) : Prop := W v ∧ c v = c B ∧ zg_ls f P (s v) = zg_ls f P (s B)
theorem zy_228_7 (hY : zx_lay Y) (hF : zg_F I L f P b n s ps c) {W : Nat → Prop} {B : Nat} (hB : B < n) (hW : ∀ k, k < n → zg_mb (I 149 k) (W k))
    (hq : ∀ J, (∀ a k, a ≠ 149 → J a k = I a k) → (∀ k, k < n → zg_mb (J 149 k) (zg_gd (zg_nx f P b) s c n (c B) (zg_tg f P s c W B) k)) → zx_To l E (d + 4) 228 166 [some (.ref 132), some (.int (nI B)), some (.int 0), some (.int 0), none, none, none, none, none] [] (zx_u2 J 132 1 0, L, Y) Qo) :
    zx_To l E (d + 4) 228 7 [some (.ref 132), some (.int (nI B)), some (.int (zg_pd n)), none, none, none, none, none, none] [] (I, L, Y) Qo := by
  obtain ⟨⟨hI, hR⟩, ⟨hb, h34⟩, hBt, hH⟩ := id hF
  obtain ⟨hn, -, hr⟩ := id hR
  have hu := hBt.2.1
  have l80 : ∀ i, zg_ls f P (s i) ≤ 80 := fun i => zg_ls_80 hI.1 (fun p hp => (hI.2.2 p hp).2)
  have hP := hI.1
  have hT : ∀ v, zg_tg f P s c W B v → c v = c B := fun v h => h.2.1
  have hinB : vp_in (nI B) 20000 := vp_in_nI (by omega) (by omega)
  obtain ⟨B1, B2, -, -, B5⟩ := hr B hB
  have lB := l80 B
  have key : ∀ i J, i ≤ n → (∀ a k, a ≠ 149 → J a k = I a k) → (∀ k, k < i → J 149 k = I 149 k) → (∀ k, i ≤ k → k < n → zg_mb (J 149 k) (zg_gd (zg_nx f P b) s c n (c B) (zg_tg f P s c W B) k)) →
      zx_To l E (d + 4) 228 7 [some (.ref 132), some (.int (nI B)), some (.int (zg_pd i)), none, none, none, none, none, none] [] (J, L, Y) Qo := by
    intro i
    induction i with
    | zero =>
      intro J _ j1 j2 j3
      exact sg_228_7 hY _ _ ⟨fun _ => hq J j1 (fun k hk => j3 k (by omega) hk), fun h => absurd (by decide : (-1 : Int32) < 0) h⟩
    | succ i ih =>
      intro J hin_ j1 j2 j3
      have hi : i < n := by omega
      have hin : vp_in (nI i) 20000 := vp_in_nI (by omega) (by omega)
      obtain ⟨a1, a2, a3, a4, a5⟩ := hr i hi
      have li := l80 i
      have s40 := zg_40 hP a4.1
      -- the calls from row i
      have inner : ∀ r p, p + r = P → ∀ K : Nat → Nat → Int32, (∀ a k, a ≠ 149 → K a k = I a k) → (∀ k, k < i → K 149 k = I 149 k) → (∀ k, i < k → k < n → zg_mb (K 149 k) (zg_gd (zg_nx f P b) s c n (c B) (zg_tg f P s c W B) k)) →
          zg_mb (K 149 i) (zg_tg f P s c W B i ∨ (c i < c B ∧ ∃ q, q < p ∧ ∃ j, zg_ed f P b s c n i q j ∧ zg_gd (zg_nx f P b) s c n (c B) (zg_tg f P s c W B) j)) →
          zx_To l E (d + 4) 228 63 [some (.ref 132), some (.int (nI B)), some (.int (nI i)), some (.int (nI p)), none, none, none, none, none] [] (K, L, Y) Qo := by
        intro r
        induction r with
        | zero =>
          intro p hp K k1 k2 k3 k4
          have ep : p = P := by omega
          subst ep
          refine sg_228_63 hY _ _ _ ⟨fun _ => ?_, fun h => absurd (by rw [k1 _ _ (by omega), hI.2.1]; exact (nI_leI (by omega) (by omega)).mpr (Nat.le_refl _)) h⟩
          rw [zg_pd_add]
          refine ih K (by omega) k1 k2 (fun k hk hkn => ?_)
          by_cases e : k = i
          · rw [e]
            refine zg_mb_iff k4 ?_
            rw [zg_gd_rec hT hi]
            constructor
            · rintro (q | ⟨q1, q, q2, j, q3, q4⟩)
              · exact Or.inl q
              · exact Or.inr ⟨q1, j, q3.2.1, (zg_ed_nx hu hi q3.2.1 q3.2.2.2).mpr ⟨q, q2, q3⟩, q3.2.2.2, q4⟩
            · rintro (q | ⟨q1, j, q2, q3, q4, q5⟩)
              · exact Or.inl q
              · obtain ⟨q, z1, z2⟩ := (zg_ed_nx hu hi q2 q4).mp q3
                exact Or.inr ⟨q1, q, z1, j, z2, q5⟩
          · exact k3 k (by omega) hkn
        | succ r ih2 =>
          intro p hp K k1 k2 k3 k4
          have hpP : p < P := by omega
          have kF : zg_F K L f P b n s ps c := zg_F_cong hF (fun a k x _ _ => k1 a k x)
          refine sg_228_63 hY _ _ _ ⟨fun h => ?_, fun _ => ⟨hin, hinB, ?_⟩⟩
          · rw [k1 _ _ (by omega), hI.2.1, nI_leI (by omega) (by omega)] at h; omega
          rw [nI_clamp (by omega), nI_clamp (by omega), k1 _ _ (by omega), k1 _ _ (by omega), B1, a1, nI_leI (by omega) (by omega)]
          refine ⟨fun h => ?_, fun h => ⟨hin, ?_⟩⟩
          · rw [zg_pd_add]
            refine ih K (by omega) k1 k2 (fun k hk hkn => ?_)
            by_cases e : k = i
            · rw [e]
              refine zg_mb_iff k4 ?_
              rw [zg_gd_rec hT hi]
              exact ⟨fun q => q.elim Or.inl (fun z => absurd z.1 (by omega)), fun q => q.elim Or.inl (fun z => absurd z.1 (by omega))⟩
            · exact k3 k (by omega) hkn
          -- the next state of the loop
          have next : ∀ v : Int32, zg_mb v (zg_tg f P s c W B i ∨ (c i < c B ∧ ∃ q, q < p + 1 ∧ ∃ j, zg_ed f P b s c n i q j ∧ zg_gd (zg_nx f P b) s c n (c B) (zg_tg f P s c W B) j)) →
              zx_To l E (d + 4) 228 63 [some (.ref 132), some (.int (nI B)), some (.int (nI i)), some (.int (nI p + 1)), none, none, none, none, none] [] (zx_u2 K 149 i (vp_nar .boolean v), L, Y) Qo := fun v hv => by
            rw [nI_1]
            refine ih2 (p + 1) (by omega) _ (fun a k x => by rw [zy_u2_na x]; exact k1 a k x) (fun k hk => by rw [zy_u2_nk (by omega)]; exact k2 k hk) (fun k hk hkn => by rw [zy_u2_nk (by omega)]; exact k3 k hk hkn) ?_
            rw [zy_u2_self]
            rcases hv with ⟨e, z⟩ | ⟨e, z⟩
            · rw [e]; exact Or.inl ⟨by decide, z⟩
            · rw [e]; exact Or.inr ⟨by decide, z⟩
          have less : ∀ q, q < p + 1 → q ≠ p → q < p := fun q a b => by omega
          rw [a3]
          refine zy_222 hY kF.1.1 (by omega) hpP ⟨hY, hin, fun hm => ⟨hin, next 1 ?_⟩, fun hm => ⟨hin, ?_⟩⟩
          · rcases k4 with ⟨-, z⟩ | ⟨e, -⟩
            · refine Or.inl ⟨rfl, z.elim Or.inl (fun ⟨z1, q, z2, z3⟩ => Or.inr ⟨z1, q, by omega, z3⟩)⟩
            · exact absurd e hm
          have k4' : ¬ (zg_tg f P s c W B i ∨ (c i < c B ∧ ∃ q, q < p ∧ ∃ j, zg_ed f P b s c n i q j ∧ zg_gd (zg_nx f P b) s c n (c B) (zg_tg f P s c W B) j)) := by
            rcases k4 with ⟨e, -⟩ | ⟨-, z⟩
            · dsimp only at hm
              rw [e] at hm; exact absurd hm (by decide)
            · exact z
          dsimp only
          rw [a3]
          refine zy_224 hY hP hb kF.2.1.2 (by omega) hpP ⟨hY, fun h2 => ⟨hin, next 0 (Or.inr ⟨rfl, ?_⟩)⟩, fun h2 => ?_⟩
          · rw [zy_b0] at h2
            rintro (q | ⟨q1, q, q2, j, q3, q4⟩)
            · exact k4' (Or.inl q)
            · by_cases e : q = p
              · rw [e] at q3
                have := q3.1
                rw [h2] at this; cases this
              · exact k4' (Or.inr ⟨q1, q, less q q2 e, j, q3, q4⟩)
          · rw [zy_b1] at h2
            refine zy_229 hY kF hi hpP h2 (fun j hj es => ⟨hY, fun h3 => ⟨hin, next 0 (Or.inr ⟨rfl, ?_⟩)⟩, fun h3 => ⟨hin, next 1 (Or.inl ⟨rfl, ?_⟩)⟩⟩)
            · rw [zy_b0] at h3
              rintro (q | ⟨q1, q, q2, j', q3, q4⟩)
              · exact k4' (Or.inl q)
              · by_cases e : q = p
                · rw [e] at q3
                  have ej : j' = j := hu j' j q3.2.1 hj (q3.2.2.1.trans es.symm)
                  rw [ej] at q3 q4
                  have hlt : i < j := by
                    by_cases z : i < j
                    · exact z
                    · have := zq_cm hBt i hi j (by omega)
                      have := q3.2.2.2
                      omega
                  rcases k3 j hlt hj with ⟨z1, z2⟩ | ⟨z1, z2⟩
                  · rw [z1, decide_eq_true q3.2.2.2] at h3
                    exact absurd h3 (by decide)
                  · exact z2 q4
                · exact k4' (Or.inr ⟨q1, q, less q q2 e, j', q3, q4⟩)
            · rw [zy_b1, Bool.and_eq_true, decide_eq_true_eq, Bool.not_eq_true', decide_eq_false_iff_not] at h3
              have hlt : i < j := by
                by_cases z : i < j
                · exact z
                · have := zq_cm hBt i hi j (by omega)
                  omega
              refine Or.inr ⟨by omega, p, by omega, j, ⟨h2, hj, es, h3.2⟩, ?_⟩
              rcases k3 j hlt hj with ⟨z1, z2⟩ | ⟨z1, z2⟩
              · exact z2
              · exact absurd z1 h3.1
      have start : ∀ v : Int32, zg_mb v (zg_tg f P s c W B i) → zx_To l E (d + 4) 228 63 [some (.ref 132), some (.int (nI B)), some (.int (nI i)), some (.int 0), none, none, none, none, none] [] (zx_u2 J 149 i (vp_nar .boolean v), L, Y) Qo := fun v hv => by
        refine inner P 0 (by omega) _ (fun a k x => by rw [zy_u2_na x]; exact j1 a k x) (fun k hk => by rw [zy_u2_nk (by omega)]; exact j2 k (by omega)) (fun k hk hkn => by rw [zy_u2_nk (by omega)]; exact j3 k (by omega) hkn) ?_
        rw [zy_u2_self]
        have : zg_mb (vp_nar .boolean v) (zg_tg f P s c W B i) := by
          rcases hv with ⟨e, z⟩ | ⟨e, z⟩
          · rw [e]; exact Or.inl ⟨by decide, z⟩
          · rw [e]; exact Or.inr ⟨by decide, z⟩
        exact zg_mb_iff this ⟨Or.inl, fun q => q.elim id (fun ⟨_, q, z, _⟩ => by omega)⟩
      refine sg_228_7 hY _ _ ⟨fun h => ?_, fun _ => ⟨hin, ?_⟩⟩
      · exact absurd h (by show ¬ nI i < 0; rw [← nI_0, nI_ltI (by omega) (by omega)]; omega)
      show _ ∧ _
      rw [show zg_pd (i + 1) = nI i from rfl, nI_clamp (by omega), nI_clamp (by omega), j2 i (by omega), j1 _ _ (by omega), j1 _ _ (by omega), j1 _ _ (by omega), j1 _ _ (by omega), a1, a2, B1, B2, nI_eq (by omega) (by omega), nI_eq (by omega) (by omega)]
      have hw := hW i hi
      refine ⟨fun h => ⟨hin, start 0 (Or.inr ⟨rfl, fun q => ?_⟩)⟩, fun h => ⟨hin, hinB, fun h2 => ⟨hin, start 0 (Or.inr ⟨rfl, fun q => h2 q.2.1⟩)⟩, fun h2 => ⟨hin, hinB, fun h3 => ⟨hin, start 0 (Or.inr ⟨rfl, fun q => h3 q.2.2⟩)⟩, fun h3 => ⟨hin, start 1 (Or.inl ⟨rfl, ?_, h2, h3⟩)⟩⟩⟩⟩
      · rcases hw with ⟨e, -⟩ | ⟨-, z⟩
        · rw [e] at h; exact absurd h (by decide)
        · exact z q.1
      · rcases hw with ⟨-, z⟩ | ⟨e, -⟩
        · exact z
        · exact absurd e h
  exact key n I (Nat.le_refl _) (fun a k _ => rfl) (fun k _ => rfl) (fun k h1 h2 => by omega)
end YRf
