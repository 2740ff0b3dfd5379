/-! ===== search: the reference explores ===== -/
def zg_sm (g : Nat → Nat) : Nat → Nat
  | 0 => 0
  | P + 1 => zg_sm g P + g P
def zg_ls (f : Nat → Nat) (P s : Nat) : Nat := zg_sm (fun p => zy_len (f p) - zg_d s p) P
theorem zg_ls_mv {f : Nat → Nat} {P s : Nat} {m : Nat → Bool} (hS : zg_S f P s) (hm : ∀ q, q < P → m q = true → 1 ≤ zg_d s q) : zg_ls f P (zg_mv P s m) = zg_ls f P s + zy_cnt m P := by
  have key : ∀ n, n ≤ P → zg_sm (fun p => zy_len (f p) - zg_d (zg_mv P s m) p) n = zg_sm (fun p => zy_len (f p) - zg_d s p) n + zy_cnt m n := by
    intro n
    induction n with
    | zero => exact fun _ => rfl
    | succ n ih =>
      intro hn
      have := ih (by omega)
      have h1 := hS.2 n (by omega)
      rw [zg_sm, zg_sm, zy_cnt, this, zg_mv_d (by omega)]
      unfold zg_bt
      cases e : m n with
      | false => rw [if_neg (by decide)]; omega
      | true => have := hm n (by omega) e; rw [if_pos rfl]; omega
  exact key P (Nat.le_refl _)
theorem zy_cnt_pos {m : Nat → Bool} {i : Nat} : ∀ {n : Nat}, i < n → m i = true → 1 ≤ zy_cnt m n
  | 0, h, _ => by omega
  | n + 1, h, e => by
    rw [zy_cnt]
    by_cases z : i = n
    · rw [← z, e, if_pos rfl]; omega
    · have := zy_cnt_pos (n := n) (i := i) (by omega) e; omega
theorem zg_m_self {f : Nat → Nat} {P s p : Nat} (hp : p < P) : zg_m f P s p p = true := by unfold zg_m; rw [decide_eq_true hp, decide_eq_true rfl]; rfl
theorem zg_e_pos {f : Nat → Nat} {P b s p : Nat} (h : zg_e f P b s p = true) : 0 < zg_d s p := by
  unfold zg_e at h
  rw [Bool.and_eq_true, decide_eq_true_eq] at h
  exact h.1
theorem zg_nx_at {f : Nat → Nat} {P b s p : Nat} (hp : p < P) : (zg_nx f P b s)[p]? = some (if zg_e f P b s p then zg_mv P s (zg_m f P s p) else s) := by
  unfold zg_nx
  rw [List.getElem?_map, List.getElem?_range hp]; rfl
theorem zg_nx_len {f : Nat → Nat} {P b s : Nat} : (zg_nx f P b s).length = P := by unfold zg_nx; rw [List.length_map, List.length_range]
/-- a table of the reference as it grows -/
def zg_V (I0 : Nat → Nat → Int32) (L0 : Nat → Nat → Int64) (f : Nat → Nat) (P b : Nat) (J : Nat → Nat → Int32) (K : Nat → Nat → Int64) (n : Nat) (s ps c : Nat → Nat) (a j : Nat) : Prop :=
  (n ≤ 20000 ∧ J 132 33 = nI n ∧ zq_B (zg_st f P) (zg_nx f P b) s ps c n a j) ∧
  (∀ i, i < n → J 146 i = nI (c i) ∧ J 147 i = nI (zg_ls f P (s i)) ∧ K 145 i = nL (s i) ∧ zg_S f P (s i) ∧ c i ≤ zg_ls f P (s i)) ∧
  zq_H 65536 zg_h s (zg_Tb J) n ∧
  (∀ x k, x ≠ 146 → x ≠ 147 → x ≠ 148 → ¬ (x = 132 ∧ k = 33) → J x k = I0 x k) ∧ (∀ x k, x ≠ 145 → K x k = L0 x k)
def zg_clr (I : Nat → Nat → Int32) (i : Nat) : Nat → Nat → Int32 := fun a k => if a = 148 ∧ k < i then -1 else I a k
theorem zg_clr_el {I : Nat → Nat → Int32} {i a k : Nat} (h : a ≠ 148) : zg_clr I i a k = I a k := by unfold zg_clr; rw [if_neg (fun q => h q.1)]
theorem zg_clr_s {I : Nat → Nat → Int32} {i : Nat} : zx_u2 (zg_clr I i) 148 i (-1) = zg_clr I (i + 1) := by
  funext a k
  unfold zx_u2 zg_clr
  by_cases h : a = 148 ∧ k = i
  · rw [if_pos h, if_pos ⟨h.1, by omega⟩]
  · rw [if_neg h]
    by_cases h2 : a = 148 ∧ k < i
    · rw [if_pos h2, if_pos ⟨h2.1, by omega⟩]
    · rw [if_neg h2, if_neg (fun q => by
        by_cases z : k = i
        · exact h ⟨q.1, z⟩
        · exact h2 ⟨q.1, by omega⟩)]
section YRc
variable {l : Launch} {E : zx_E} {d : Nat} {I : Nat → Nat → Int32} {L : Nat → Nat → Int64} {Y : zx_Y} {Q : Int32 → zx_M → Prop} {P b : Nat} {f : Nat → Nat}
theorem zy_226 (hY : zx_lay Y) (hI : zg_I I P f) (hb : b < 2 ^ 31)
    (hq1 : ∀ n s ps c J K, zg_V (zx_u2 I 132 34 (nI b)) L f P b J K n s ps c n 0 → Q 1 (J, K, Y))
    (hq0 : ∀ s ps c J K a j t k, zg_V (zx_u2 I 132 34 (nI b)) L f P b J K 20000 s ps c a j → zq_P (zg_st f P) (zg_nx f P b) k t → (∀ i, i < 20000 → s i ≠ t) → Q 0 (J, K, Y)) :
    zx_Ci l E (d + 4) 226 [.ref 132, .int (nI b)] (I, L, Y) Q := by
  obtain ⟨hP, h3, h4⟩ := id hI
  have i2 : (20000 : Int32) = nI 20000 := rfl
  have i6 : (65536 : Int32) = nI 65536 := rfl
  refine sg_226_0 hY _ ?_
  generalize hI0 : zx_u2 I 132 34 (nI b) = I0 at *
  have g34 : I0 132 34 = nI b := by rw [← hI0]; exact zy_u2_self
  have gI : zg_I I0 P f := by
    refine ⟨hP, ?_, fun p hp => ?_⟩
    · rw [← hI0, zy_u2_nk (by omega)]; exact h3
    · rw [← hI0, zy_u2_na (by omega)]; exact h4 p hp
  have gJ : ∀ J : Nat → Nat → Int32, (∀ x k, x ≠ 146 → x ≠ 147 → x ≠ 148 → ¬ (x = 132 ∧ k = 33) → J x k = I0 x k) → zg_I J P f ∧ J 132 34 = nI b := fun J h => by
    obtain ⟨q1, q2, q3⟩ := gI
    exact ⟨⟨q1, by rw [h _ _ (by omega) (by omega) (by omega) (by omega)]; exact q2, fun p hp => by rw [h _ _ (by omega) (by omega) (by omega) (by omega)]; exact q3 p hp⟩, by rw [h _ _ (by omega) (by omega) (by omega) (by omega)]; exact g34⟩
  -- the rows
  have outer : ∀ r a, a + r = 20000 → ∀ J K n s ps c, zg_V I0 L f P b J K n s ps c a 0 → zx_To l E (d + 4) 226 74 [some (.ref 132), none, some (.int (nI a)), none, none, none, none, none] [] (J, K, Y) (fun r M' => ∃ v, r = some (.int v) ∧ Q v M') := by
    intro r
    induction r with
    | zero =>
      intro a ha J K n s ps c hV
      obtain ⟨⟨v1, v2, v3⟩, -⟩ := id hV
      have hle := v3.1.2.2.2.1
      have ea : n = a := by omega
      subst ea
      refine sg_226_74 hY _ ⟨fun _ => ⟨_, rfl, hq1 n s ps c J K hV⟩, fun h => absurd (by rw [v2]; exact (nI_leI (by omega) (by omega)).mpr (Nat.le_refl _)) h⟩
    | succ r ih =>
      intro a ha J K n s ps c hV
      obtain ⟨⟨v1, v2, v3⟩, -⟩ := id hV
      have hle := v3.1.2.2.2.1
      refine sg_226_74 hY _ ?_
      rw [v2, nI_leI (by omega) (by omega)]
      refine ⟨fun h => ?_, fun h => ?_⟩
      · have ea : n = a := by omega
        subst ea
        exact ⟨_, rfl, hq1 n s ps c J K hV⟩
      · have inner : ∀ q p, p + q = P → ∀ J K n s ps c, a < n → zg_V I0 L f P b J K n s ps c a p → zx_To l E (d + 4) 226 84 [some (.ref 132), none, some (.int (nI a)), some (.int (nI p)), none, none, none, none] [] (J, K, Y) (fun r M' => ∃ v, r = some (.int v) ∧ Q v M') := by
          intro q
          induction q with
          | zero =>
            intro p hp J K n s ps c han hV
            have ep : p = P := by omega
            subst ep
            obtain ⟨⟨v1, v2, v3⟩, v4, v5, v6, v7⟩ := id hV
            obtain ⟨⟨j1, j2, j3⟩, j4⟩ := gJ J v6
            refine sg_226_84 hY _ _ ⟨fun _ => ?_, fun h => absurd (by rw [j2]; exact (nI_leI (by omega) (by omega)).mpr (Nat.le_refl _)) h⟩
            rw [nI_1]
            exact ih (a + 1) (by omega) J K n s ps c ⟨⟨v1, v2, zq_B_a v3 han (by rw [zg_nx_len]; exact Nat.le_refl _)⟩, v4, v5, v6, v7⟩
          | succ q ih2 =>
            intro p hp J K n s ps c han hV
            obtain ⟨⟨v1, v2, v3⟩, v4, v5, v6, v7⟩ := id hV
            obtain ⟨jI, j4⟩ := gJ J v6
            obtain ⟨j1, j2, j3⟩ := id jI
            obtain ⟨w1, w2, w3, w4, w5⟩ := v4 a han
            have s40 := zg_40 hP w4.1
            have hin : vp_in (nI a) 20000 := vp_in_nI (by omega) (by omega)
            have hpP : p < P := by omega
            have at_ := zg_nx_at (f := f) (b := b) (s := s a) hpP
            refine sg_226_84 hY _ _ ⟨fun h => ?_, fun _ => ⟨hin, ?_⟩⟩
            · rw [j2, nI_leI (by omega) (by omega)] at h; omega
            rw [nI_clamp (by omega), w3]
            refine zy_222 hY jI (by omega) hpP ⟨hY, hin, ?_⟩
            dsimp only
            rw [w3]
            refine zy_224 hY hP hb j4 (by omega) hpP ⟨hY, fun h => ⟨hin, ?_⟩, fun h => ?_⟩
            · rw [zy_b1] at h
              rw [h, if_pos rfl] at at_
              have mpos : ∀ q, q < P → zg_m f P (s a) p q = true → 1 ≤ zg_d (s a) q := fun q _ hm => zg_m_pos w4 hpP (zg_e_pos h) hm
              dsimp only
              rw [w3]
              refine zy_223 hY hP j2 w4.1 mpos ⟨hY, ?_⟩
              have tS := zg_mv_S (m := zg_m f P (s a) p) w4
              have t40 := zg_40 hP tS.1
              have tls := zg_ls_mv w4 mpos
              have tc := zy_cnt_pos hpP (zg_m_self (f := f) (s := s a) hpP)
              have tpop := zg_pop (f := f) (s := s a) (p := p) hP
              have c10 := zy_orN10 (zg_m f P (s a) p) hP
              generalize ht : zg_mv P (s a) (zg_m f P (s a) p) = t at *
              refine zy_221 (n := n) (s := s) hY (by omega) v1 v5 (fun i hi => by
                obtain ⟨-, -, z3, z4, -⟩ := v4 i hi
                exact ⟨z3, by have := zg_40 hP z4.1; omega⟩) (fun k hk hst hbk => ⟨hY, ?_⟩)
              have hlt := zq_a_lt (M := 65536) (h := zg_h) (x := t) (k := k) (by omega)
              refine ⟨vp_in_nI hlt (by omega), ?_⟩
              rw [nI_clamp (by omega)]
              dsimp only
              refine ⟨fun hneg => ?_, fun hpos => ?_⟩
              · have tn := zg_Tb_none.mpr hneg
                have hnew := zq_none v5 hbk tn
                rw [v2, i2, nI_eq (by omega) (by omega), nI_clamp (by omega)]
                refine ⟨fun hne => ?_, fun e => ⟨_, rfl, ?_⟩⟩
                · have hin2 : vp_in (nI n) 20000 := vp_in_nI (by omega) (by omega)
                  refine ⟨hin2, hin, hin2, hin, zy_266 hY c10 ⟨hY, hin2, vp_in_nI hlt (by omega), ?_⟩⟩
                  rw [tpop, w1, w2, nI_1, nI_add, ← tls]
                  dsimp only
                  rw [zy_u2_na (show (132 : Nat) ≠ 146 by omega), v2, nI_1, nI_1]
                  refine ih2 (p + 1) (by omega) _ _ (n + 1) (fun i => if i = n then t else s i) (fun i => if i = n then a else ps i) (fun i => if i = n then c a + 1 else c i) (by omega) ⟨⟨by omega, zy_u2_self, ?_⟩, fun i hi => ?_, ?_, fun x y x1 x2 x3 x4 => ?_, fun x y x1 => ?_⟩
                  · exact zq_B_new v3 han at_ hnew (fun i hi => if_neg (by omega)) (fun i hi => if_neg (by omega)) (fun i hi => if_neg (by omega)) (if_pos rfl) (if_pos rfl) (if_pos rfl)
                  · dsimp only
                    by_cases e : i = n
                    · rw [if_pos e, if_pos e, e]
                      refine ⟨?_, ?_, zy_u2_self, tS, by omega⟩
                      · rw [zy_u2_na (show (146 : Nat) ≠ 132 by omega), zy_u2_na (show (146 : Nat) ≠ 148 by omega), zy_u2_na (show (146 : Nat) ≠ 147 by omega), zy_u2_self]
                      · rw [zy_u2_na (show (147 : Nat) ≠ 132 by omega), zy_u2_na (show (147 : Nat) ≠ 148 by omega), zy_u2_self]
                    · obtain ⟨z1, z2, z3, z4, z5⟩ := v4 i (by omega)
                      rw [if_neg e, if_neg e]
                      refine ⟨?_, ?_, ?_, z4, z5⟩
                      · rw [zy_u2_na (show (146 : Nat) ≠ 132 by omega), zy_u2_na (show (146 : Nat) ≠ 148 by omega), zy_u2_na (show (146 : Nat) ≠ 147 by omega), zy_u2_nk e]; exact z1
                      · rw [zy_u2_na (show (147 : Nat) ≠ 132 by omega), zy_u2_na (show (147 : Nat) ≠ 148 by omega), zy_u2_nk e, zy_u2_na (show (147 : Nat) ≠ 146 by omega)]; exact z2
                      · rw [zy_u2_nk e]; exact z3
                  · refine zq_H_new v5 hk (by omega) hbk tn (fun i hi => if_neg (by omega)) (if_pos rfl) (fun x hx hne2 => ?_) (zg_Tb_at ?_ (by omega))
                    · unfold zg_Tb
                      rw [zy_u2_na (by omega), zy_u2_nk hne2, zy_u2_na (by omega), zy_u2_na (by omega)]
                    · rw [zy_u2_na (by omega), zy_u2_self]
                  · rw [zy_u2_ne (by omega), zy_u2_na x3, zy_u2_na x2, zy_u2_na x1]; exact v6 x y x1 x2 x3 x4
                  · rw [zy_u2_na x1]; exact v7 x y x1
                · subst e
                  have hr := zq_reach v3 a han
                  exact hq0 s ps c J K a p t (c a + 1) hV ⟨s a, hr, List.mem_of_getElem? at_⟩ hnew
              · rcases hst with e | ⟨i, e, es⟩
                · exact absurd (zg_Tb_none.mp e) hpos
                · have hi := v5.2.1 _ _ hlt e
                  rw [nI_1]
                  exact ih2 (p + 1) (by omega) J K n s ps c han ⟨⟨v1, v2, zq_B_old v3 han at_ hi es⟩, v4, v5, v6, v7⟩
            · rw [zy_b0] at h
              rw [h, if_neg (by decide)] at at_
              rw [nI_1]
              exact ih2 (p + 1) (by omega) J K n s ps c han ⟨⟨v1, v2, zq_B_old v3 han at_ han rfl⟩, v4, v5, v6, v7⟩
        exact inner P 0 (by omega) J K n s ps c (by omega) hV
  -- all slots free
  have st8 : ∀ p, p < P → zy_len (f p) < 16 := fun p hp => by have := zy_len8 (h4 p hp).2; omega
  have stS : zg_S f P (zg_st f P) := ⟨zg_c_lt st8, fun p hp => by unfold zg_st; rw [zg_d_c st8 p hp]; exact Nat.le_refl _⟩
  have st40 := zg_40 hP stS.1
  have stl : zg_ls f P (zg_st f P) = 0 := by
    have key : ∀ n, n ≤ P → zg_sm (fun p => zy_len (f p) - zg_d (zg_st f P) p) n = 0 := by
      intro n
      induction n with
      | zero => exact fun _ => rfl
      | succ n ih =>
        intro hn
        rw [zg_sm, ih (by omega)]
        unfold zg_st
        rw [zg_d_c st8 n (by omega)]; omega
    exact key P (Nat.le_refl _)
  have loop : ∀ r i, i + r = 65536 → zx_To l E (d + 4) 226 7 [some (.ref 132), none, some (.int (nI i)), none, none, none, none, none] [] (zg_clr I0 i, L, Y) (fun r M' => ∃ v, r = some (.int v) ∧ Q v M') := by
    intro r
    induction r with
    | succ r ih =>
      intro i hi
      refine sg_226_7 hY _ ⟨fun h => ?_, fun _ => ⟨vp_in_nI (by omega) (by omega), ?_⟩⟩
      · rw [i6, nI_leI (by omega) (by omega)] at h; omega
      · rw [nI_clamp (by omega), zg_clr_s, nI_1]
        exact ih (i + 1) (by omega)
    | zero =>
      intro i hi
      have ei : i = 65536 := by omega
      subst ei
      refine sg_226_7 hY _ ⟨fun _ => ?_, fun h => absurd (by rw [i6]; exact (nI_leI (by omega) (by omega)).mpr (Nat.le_refl _)) h⟩
      have cI : zg_I (zg_clr I0 65536) P f := by
        obtain ⟨q1, q2, q3⟩ := gI
        exact ⟨q1, by rw [zg_clr_el (by omega)]; exact q2, fun p hp => by rw [zg_clr_el (by omega)]; exact q3 p hp⟩
      refine zy_225 hY cI ⟨hY, ?_⟩
      dsimp only
      have free : ∀ a, a < 65536 → zg_Tb (zx_u2 (zx_u2 (zg_clr I0 65536) 146 0 0) 147 0 0) a = none := fun a ha => by
        rw [zg_Tb_none, zy_u2_na (by omega), zy_u2_na (by omega)]
        unfold zg_clr
        rw [if_pos ⟨rfl, ha⟩]; decide
      refine zy_221 (n := 0) (s := fun _ => zg_st f P) hY (by omega) (by omega) (zq_H_0 (by omega) free) (fun i hi => by omega) (fun k hk hst hbk => ⟨hY, ?_⟩)
      have hlt := zq_a_lt (M := 65536) (h := zg_h) (x := zg_st f P) (k := k) (by omega)
      refine ⟨vp_in_nI hlt (by omega), ?_⟩
      rw [nI_clamp (by omega)]
      dsimp only
      refine outer 20000 0 (by omega) _ _ 1 (fun _ => zg_st f P) (fun _ => 0) (fun _ => 0) ⟨⟨by omega, zy_u2_self, zq_B_0 rfl rfl⟩, fun i hi => ?_, ?_, fun x y x1 x2 x3 x4 => ?_, fun x y x1 => ?_⟩
      · have e : i = 0 := by omega
        subst e
        rw [stl]
        refine ⟨?_, ?_, zy_u2_self, stS, Nat.le_refl _⟩
        · rw [zy_u2_na (by omega), zy_u2_na (by omega), zy_u2_na (by omega), zy_u2_self]; rfl
        · rw [zy_u2_na (by omega), zy_u2_na (by omega), zy_u2_self]; rfl
      · refine zq_H_new (s := fun _ => zg_st f P) (zq_H_0 (by omega) free) hk (by omega) hbk (free _ hlt) (fun i hi => rfl) rfl (fun x hx hne2 => ?_) (zg_Tb_at ?_ (by omega))
        · unfold zg_Tb
          rw [zy_u2_na (by omega), zy_u2_nk hne2]
        · rw [zy_u2_na (by omega), zy_u2_self]; rfl
      · rw [zy_u2_ne (by omega), zy_u2_na x3, zy_u2_na x2, zy_u2_na x1]
        unfold zg_clr
        rw [if_neg (by omega)]
      · rw [zy_u2_na x1]
  have := loop 65536 0 (by omega)
  rw [show zg_clr I0 0 = I0 by funext a k; unfold zg_clr; rw [if_neg (by omega)]] at this
  exact this
end YRc
