/-! ===== search: a row is spread ===== -/
section MY
variable {f π fr : Nat → Nat} {P N G g b t l y i0 : Nat}
/-- those at l whose name no place below y has -/
def zs_My (f π fr : Nat → Nat) (g t l y : Nat) : Nat → Bool := fun i => zs_in fr g i && (decide (zg_d t (π i) = l) && (List.range y).all (fun j => !zs_cm f π fr g t l i j))
theorem zs_My_iff {i : Nat} : zs_My f π fr g t l y i = true ↔ zs_in fr g i = true ∧ zg_d t (π i) = l ∧ ∀ j, j < y → zs_cm f π fr g t l i j = false := by
  unfold zs_My
  rw [Bool.and_eq_true, Bool.and_eq_true, decide_eq_true_eq, List.all_eq_true]
  constructor
  · rintro ⟨h1, h2, h3⟩
    exact ⟨h1, h2, fun j hj => by have := h3 j (List.mem_range.mpr hj); rw [Bool.not_eq_true'] at this; exact this⟩
  · rintro ⟨h1, h2, h3⟩
    exact ⟨h1, h2, fun j hj => by rw [h3 j (List.mem_range.mp hj)]; rfl⟩
theorem zs_cm_iff {i j : Nat} : zs_cm f π fr g t l i j = true ↔ zs_in fr g j = true ∧ zg_d t (π j) = l ∧ zg_n f t (π j) = zg_n f t (π i) := by
  unfold zs_cm
  rw [Bool.and_eq_true, Bool.and_eq_true, decide_eq_true_eq, decide_eq_true_eq]
theorem zs_cm_no {i j : Nat} : zs_cm f π fr g t l i j = false ↔ ¬ (zs_in fr g j = true ∧ zg_d t (π j) = l ∧ zg_n f t (π j) = zg_n f t (π i)) := by
  rw [← zs_cm_iff, Bool.not_eq_true]
theorem zb_ext {a b : Bool} (h : a = true ↔ b = true) : a = b := by
  cases a <;> cases b
  · rfl
  · exact absurd (h.mpr rfl) (by decide)
  · exact absurd (h.mp rfl) (by decide)
  · rfl
theorem zs_My_0 (hl : 1 ≤ l) (i : Nat) : zs_My f π fr g t l 0 i = decide (zs_dl π fr g t i = l) := by
  refine zb_ext ?_
  rw [zs_My_iff, decide_eq_true_eq]
  unfold zs_dl
  constructor
  · rintro ⟨h1, h2, -⟩
    rw [h1, if_pos rfl]; exact h2
  · intro h
    cases e : zs_in fr g i with
    | true => rw [e, if_pos rfl] at h; exact ⟨rfl, h, fun j hj => by omega⟩
    | false => rw [e, if_neg (by decide)] at h; omega
theorem zs_My_ge (h : zs_My f π fr g t l y i0 = true) : y ≤ i0 := by
  obtain ⟨h1, h2, h3⟩ := zs_My_iff.mp h
  by_cases z : y ≤ i0
  · exact z
  · have := h3 i0 (by omega)
    rw [zs_cm_no] at this
    exact absurd ⟨h1, h2, rfl⟩ this
/-- somebody at l whose name is had below y -/
theorem zs_My_had {i : Nat} (h : zs_My f π fr g t l y i = false) (h1 : zs_in fr g i = true) (h2 : zg_d t (π i) = l) : ∃ j, j < y ∧ zs_cm f π fr g t l i j = true := by
  by_cases z : ∃ j, j < y ∧ zs_cm f π fr g t l i j = true
  · exact z
  · have := zs_My_iff (f := f).mpr ⟨h1, h2, fun j hj => by
      cases e : zs_cm f π fr g t l i j with
      | false => rfl
      | true => exact absurd ⟨j, hj, e⟩ z⟩
    rw [this] at h; cases h
theorem zs_cm_tr {i j k : Nat} (h1 : zs_cm f π fr g t l i j = true) (h2 : zs_cm f π fr g t l j k = true) : zs_cm f π fr g t l i k = true := by
  rw [zs_cm_iff] at h1 h2 ⊢
  exact ⟨h2.1, h2.2.1, h2.2.2.trans h1.2.2⟩
theorem zs_first (h : zs_My f π fr g t l y i0 = true) (hlo : ∀ j, j < i0 → zs_My f π fr g t l y j = false) : ∀ j, j < i0 → zs_cm f π fr g t l i0 j = false := by
  intro j hj
  cases e : zs_cm f π fr g t l i0 j with
  | false => rfl
  | true =>
    obtain ⟨c1, c2, c3⟩ := zs_cm_iff.mp e
    obtain ⟨k, k1, k2⟩ := zs_My_had (hlo j hj) c1 c2
    have := (zs_My_iff.mp h).2.2 k k1
    rw [zs_cm_tr e k2] at this; cases this
theorem zs_who (hF : zs_F f P) (hO : zs_Om f 10 N π) (hG : zs_Gr f π N G fr) (hg : g < G) (hS : zg_S f P t) (h : zs_My f π fr g t l y i0 = true) (i : Nat) : (zs_My f π fr g t l y i && zs_sh f N π i0 l i) = zs_cm f π fr g t l i0 i := by
  obtain ⟨h1, h2, h3⟩ := zs_My_iff.mp h
  refine zb_ext ?_
  rw [Bool.and_eq_true, zs_My_iff, zs_cm_iff]
  unfold zs_sh
  rw [Bool.and_eq_true, Bool.and_eq_true, decide_eq_true_eq, decide_eq_true_eq, decide_eq_true_eq]
  constructor
  · rintro ⟨⟨a1, a2, a3⟩, b1, b2, b3⟩
    refine ⟨a1, a2, ?_⟩
    unfold zg_n
    rw [a2, h2]; exact b3
  · rintro ⟨a1, a2, a3⟩
    have hi := zs_inN hG hg a1
    have := hS.2 _ (zs_πP hF hO hi)
    refine ⟨⟨a1, a2, fun j hj => ?_⟩, hi, by omega, ?_⟩
    · cases e : zs_cm f π fr g t l i j with
      | false => rfl
      | true =>
        have := h3 j hj
        rw [zs_cm_tr (zs_cm_iff.mpr ⟨a1, a2, a3⟩) e] at this; cases this
    · unfold zg_n at a3
      rw [a2, h2] at a3; exact a3
theorem zs_My_next (h : zs_My f π fr g t l y i0 = true) (hlo : ∀ j, j < i0 → zs_My f π fr g t l y j = false) (i : Nat) : (zs_My f π fr g t l y i && !zs_cm f π fr g t l i0 i) = zs_My f π fr g t l (i0 + 1) i := by
  obtain ⟨h1, h2, h3⟩ := zs_My_iff.mp h
  have yi := zs_My_ge h
  refine zb_ext ?_
  rw [Bool.and_eq_true, Bool.not_eq_true', zs_My_iff, zs_My_iff]
  constructor
  · rintro ⟨⟨a1, a2, a3⟩, a4⟩
    refine ⟨a1, a2, fun j hj => ?_⟩
    cases e : zs_cm f π fr g t l i j with
    | false => rfl
    | true =>
      obtain ⟨c1, c2, c3⟩ := zs_cm_iff.mp e
      by_cases z : j < y
      · rw [a3 j z] at e; cases e
      · by_cases z2 : j = i0
        · rw [z2] at c3
          rw [zs_cm_no] at a4
          exact absurd ⟨a1, a2, c3.symm⟩ a4
        · obtain ⟨k, k1, k2⟩ := zs_My_had (hlo j (by omega)) c1 c2
          have := zs_cm_tr e k2
          rw [a3 k k1] at this; cases this
  · rintro ⟨a1, a2, a3⟩
    refine ⟨⟨a1, a2, fun j hj => a3 j (by omega)⟩, ?_⟩
    cases e : zs_cm f π fr g t l i0 i with
    | false => rfl
    | true =>
      obtain ⟨c1, c2, c3⟩ := zs_cm_iff.mp e
      have := a3 i0 (by omega)
      rw [zs_cm_no] at this
      exact absurd ⟨h1, h2, c3.symm⟩ this
theorem zs_cl_had {x : Nat} (h : zs_My f π fr g t l y x = false) (hx : y ≤ x) : zs_cl f π P fr g b t l x = false := by
  cases e : zs_cl f π P fr g b t l x with
  | false => rfl
  | true =>
    obtain ⟨c1, c2, c3, -⟩ := zs_cl_iff.mp e
    obtain ⟨j, j1, j2⟩ := zs_My_had h c1 c2
    rw [c3 j (by omega)] at j2; cases j2
theorem zs_cl_first (h : zs_My f π fr g t l y i0 = true) (hlo : ∀ j, j < i0 → zs_My f π fr g t l y j = false) : zs_cl f π P fr g b t l i0 = decide (zy_cnt (zg_m f P t (π i0)) P ≤ b) := by
  obtain ⟨h1, h2, h3⟩ := zs_My_iff.mp h
  refine zb_ext ?_
  rw [zs_cl_iff, decide_eq_true_eq]
  exact ⟨fun q => q.2.2.2, fun q => ⟨h1, h2, zs_first h hlo, q⟩⟩
/-- so far nobody would be answered by two -/
def zs_Ul (f π : Nat → Nat) (P N : Nat) (fr : Nat → Nat) (g t l y : Nat) : Prop :=
  ∀ i, i < N → zs_in fr g i = true → ((1 ≤ zg_d t (π i) ∧ zg_d t (π i) < l) ∨ (zg_d t (π i) = l ∧ ∃ j, j < y ∧ zs_cm f π fr g t l i j = true)) → zy_cnt (zg_m f P t (π i)) P ≤ 1
theorem zs_Ul_s (hi : i0 < N) (h : zs_My f π fr g t l y i0 = true) (hlo : ∀ j, j < i0 → zs_My f π fr g t l y j = false) : zs_Ul f π P N fr g t l (i0 + 1) ↔ zs_Ul f π P N fr g t l y ∧ zy_cnt (zg_m f P t (π i0)) P ≤ 1 := by
  obtain ⟨h1, h2, h3⟩ := zs_My_iff.mp h
  have yi := zs_My_ge h
  constructor
  · intro u
    refine ⟨fun i a1 a2 a3 => u i a1 a2 (a3.elim Or.inl (fun ⟨e, j, j1, j2⟩ => Or.inr ⟨e, j, by omega, j2⟩)), u i0 hi h1 (Or.inr ⟨h2, i0, by omega, zs_cm_iff.mpr ⟨h1, h2, rfl⟩⟩)⟩
  · rintro ⟨u, hc⟩ i a1 a2 (a3 | ⟨a3, j, j1, j2⟩)
    · exact u i a1 a2 (Or.inl a3)
    · by_cases z : j < y
      · exact u i a1 a2 (Or.inr ⟨a3, j, z, j2⟩)
      · obtain ⟨c1, c2, c3⟩ := zs_cm_iff.mp j2
        by_cases z2 : j = i0
        · rw [z2] at c3
          rw [← zg_m_eq c3]; exact hc
        · obtain ⟨k, k1, k2⟩ := zs_My_had (hlo j (by omega)) c1 c2
          exact u i a1 a2 (Or.inr ⟨a3, k, k1, zs_cm_tr j2 k2⟩)
theorem zs_Ul_e (h : ∀ i, i < N → zs_My f π fr g t l y i = false) (hl : 1 ≤ l) : zs_Ul f π P N fr g t (l + 1) 0 ↔ zs_Ul f π P N fr g t l y := by
  constructor
  · rintro u i a1 a2 (⟨a3, a4⟩ | ⟨a3, a4⟩)
    · exact u i a1 a2 (Or.inl ⟨a3, by omega⟩)
    · exact u i a1 a2 (Or.inl ⟨by omega, by omega⟩)
  · rintro u i a1 a2 (⟨a3, a4⟩ | ⟨a3, j, j1, -⟩)
    · by_cases z : zg_d t (π i) < l
      · exact u i a1 a2 (Or.inl ⟨a3, z⟩)
      · obtain ⟨k, k1, k2⟩ := zs_My_had (h i a1) a2 (by omega)
        exact u i a1 a2 (Or.inr ⟨by omega, k, k1, k2⟩)
    · omega
/-- of the group, nobody would be answered by two; nobody has a letter -/
def zs_unb (f π : Nat → Nat) (P N : Nat) (fr : Nat → Nat) (G g t : Nat) : Bool := zg_al (fun p => !(zh_A (zs_g f π N fr G) g p) || zg_un f P t p) P
def zs_nmb (f π : Nat → Nat) (P N : Nat) (fr : Nat → Nat) (G g t : Nat) : Bool := zg_al (fun p => !(zh_A (zs_g f π N fr G) g p) || decide (zg_d t p = 0)) P
theorem zs_unb_iff (hF : zs_F f P) (hO : zs_Om f 10 N π) (hG : zs_Gr f π N G fr) (hg : g < G) : zs_unb f π P N fr G g t = true ↔ ∀ i, i < N → zs_in fr g i = true → 1 ≤ zg_d t (π i) → zy_cnt (zg_m f P t (π i)) P ≤ 1 := by
  unfold zs_unb
  rw [zg_al_iff]
  constructor
  · intro h i hi h1 h2
    have := h (π i) (zs_πP hF hO hi)
    rw [zh_A_iff.mpr (zs_in_g hO hG hg h1), Bool.not_true, Bool.false_or] at this
    unfold zg_un at this
    rw [decide_eq_true (show 0 < zg_d t (π i) by omega), Bool.not_true, Bool.false_or, decide_eq_true_eq] at this
    exact this
  · intro h p hp
    cases e : zh_A (zs_g f π N fr G) g p with
    | false => rfl
    | true =>
      rw [Bool.not_true, Bool.false_or]
      obtain ⟨i, i1, i2, i3⟩ := zs_g_in hF hO hG hg hp (zh_A_iff.mp e)
      unfold zg_un
      by_cases z : 0 < zg_d t p
      · have := h i i1 i2 (by rw [i3]; omega)
        rw [i3] at this
        rw [decide_eq_true this, Bool.or_true]
      · rw [decide_eq_false z]; rfl
theorem zs_nmb_iff (hF : zs_F f P) (hO : zs_Om f 10 N π) (hG : zs_Gr f π N G fr) (hg : g < G) : zs_nmb f π P N fr G g t = true ↔ ∀ i, i < 10 → zs_dl π fr g t i = 0 := by
  have hN := hO.1
  unfold zs_nmb
  rw [zg_al_iff]
  constructor
  · intro h i _
    unfold zs_dl
    cases e : zs_in fr g i with
    | false => rfl
    | true =>
      rw [if_pos rfl]
      have hi := zs_inN hG hg e
      have := h (π i) (zs_πP hF hO hi)
      rw [zh_A_iff.mpr (zs_in_g hO hG hg e), Bool.not_true, Bool.false_or, decide_eq_true_eq] at this
      exact this
  · intro h p hp
    cases e : zh_A (zs_g f π N fr G) g p with
    | false => rfl
    | true =>
      rw [Bool.not_true, Bool.false_or, decide_eq_true_eq]
      obtain ⟨i, i1, i2, i3⟩ := zs_g_in hF hO hG hg hp (zh_A_iff.mp e)
      have := h i (by omega)
      unfold zs_dl at this
      rw [i2, if_pos rfl, i3] at this
      exact this
theorem zs_Ul_un (hF : zs_F f P) (hO : zs_Om f 10 N π) (hG : zs_Gr f π N G fr) (hg : g < G) (hd : ∀ i, i < N → zg_d t (π i) < l) : zs_Ul f π P N fr g t l 0 ↔ zs_unb f π P N fr G g t = true := by
  rw [zs_unb_iff hF hO hG hg]
  constructor
  · exact fun u i a1 a2 a3 => u i a1 a2 (Or.inl ⟨a3, hd i a1⟩)
  · rintro u i a1 a2 (⟨a3, -⟩ | ⟨-, j, j1, -⟩)
    · exact u i a1 a2 a3
    · omega
end MY
theorem zs_Dm_cong {I J : Nat → Nat → Int32} {L : Nat → Nat → Int64} {Y : zx_Y} {q rw ca lo : Nat → Nat} {pa : Nat → Int32} {R Z sb mk nf : Nat} (h : zs_Dm I L Y q R Z sb mk nf rw pa ca lo) (h1 : ∀ k, J (q 6) k = I (q 6) k ∧ J (q 7) k = I (q 7) k ∧ J (q 8) k = I (q 8) k ∧ J (q 9) k = I (q 9) k) (h2 : J 22 10 = I 22 10 ∧ J 22 11 = I 22 11 ∧ J 22 12 = I 22 12) : zs_Dm J L Y q R Z sb mk nf rw pa ca lo := by
  obtain ⟨a1, ⟨⟨b1, b2, b3⟩, b4⟩, c1, c2, c3, c4⟩ := h
  have e : zs_Ts J (q 9) mk nf = zs_Ts I (q 9) mk nf := by
    funext a
    unfold zs_Ts
    rw [(h1 a).2.2.2]
  refine ⟨a1, ⟨⟨by rw [h2.1]; exact b1, by rw [h2.2.1]; exact b2, by rw [h2.2.2]; exact b3⟩, b4⟩, c1, fun i hi => ?_, fun a ha => ?_, by rw [e]; exact c4⟩
  · rw [(h1 i).1, (h1 i).2.1, (h1 i).2.2.1]; exact c2 i hi
  · rw [(h1 a).2.2.2]; exact c3 a ha
section YX
variable {l : Launch} {E : zx_E} {d : Nat} {I0 J : Nat → Nat → Int32} {L0 K : Nat → Nat → Int64} {Y : zx_Y} {Qo : Option Value → zx_M → Prop} {Q : Int32 → zx_M → Prop} {Ql : Int64 → zx_M → Prop} {Qv : zx_M → Prop} {f π fr q rw0 ca0 lo0 : Nat → Nat} {pa0 : Nat → Int32} {P N G g b o R Z sb mk C lg n a j : Nat} {s ps c : Nat → Nat}
theorem zs_BI_cong {J' : Nat → Nat → Int32} (h : zs_BI f π fr P N G g b o Y q R Z sb mk I0 L0 rw0 pa0 ca0 lo0 J K n s ps c a j) (hJ : ∀ x k, ¬ (x = 22 ∧ (k = 15 ∨ k = 16)) → J' x k = J x k) : zs_BI f π fr P N G g b o Y q R Z sb mk I0 L0 rw0 pa0 ca0 lo0 J' K n s ps c a j := by
  obtain ⟨⟨rw, pa, ca, lo, hD, h1, h2⟩, h3, h4, h5, h6⟩ := h
  have nq := (zs_Q_ne hD.1).2.2.2.2
  have q6 := nq 6 (by omega) (by omega)
  have q7 := nq 7 (by omega) (by omega)
  have q8 := nq 8 (by omega) (by omega)
  have q9 := nq 9 (by omega) (by omega)
  exact ⟨⟨rw, pa, ca, lo, zs_Dm_cong hD (fun k => ⟨hJ _ _ (by omega), hJ _ _ (by omega), hJ _ _ (by omega), hJ _ _ (by omega)⟩) ⟨hJ _ _ (by omega), hJ _ _ (by omega), hJ _ _ (by omega)⟩, h1, h2⟩, h3, h4, fun x k x1 x2 x3 x4 x5 => by rw [hJ x k (by omega)]; exact h5 x k x1 x2 x3 x4 x5, h6⟩
theorem zy_93 (hY : zx_lay Y) (hC : zs_CX f π fr P N G g b o R sb mk C I0 L0 rw0 lg) (hB : zs_BI f π fr P N G g b o Y q R Z sb mk I0 L0 rw0 pa0 ca0 lo0 J K n s ps c a 0) (ha : a < n) {u w : Nat} (h15 : J 22 15 = nI u) (h16 : J 22 16 = nI w)
    (hq : ∀ J' K' n' s' ps' c', zs_BI f π fr P N G g b o Y q R Z sb mk I0 L0 rw0 pa0 ca0 lo0 J' K' n' s' ps' c' (a + 1) 0 → a < n' → (∀ i, i ≤ a → s' i = s i) → J' 22 15 = nI (u + (zs_unb f π P N fr G g (s a)).toNat) → J' 22 16 = nI (w + (zs_nmb f π P N fr G g (s a)).toNat) → Qv (J', K', Y)) :
    zx_Cv l E (d + 3) 93 [.ref 22, .int (nI (o + a))] (J, K, Y) Qv := by
  obtain ⟨⟨hF, hO, hG, hg⟩, hU, ⟨hb1, hb2⟩, hold, hcap, cR, cS, cM⟩ := id hC
  have G6 := hG.1
  have hN := hO.1
  have hS : zg_S f P (s a) := (hB.2.1 a ha).1.1
  obtain ⟨-, -, -, hU9, hlg, hlen⟩ := id hU
  have dl8 := zs_dl_lt hF hO hG hg hS
  have dl16 : ∀ i, i < 10 → zs_dl π fr g (s a) i < 16 := fun i hi => by have := dl8 i hi; omega
  have d8 : ∀ i, i < N → zg_d (s a) (π i) ≤ lg := fun i hi => Nat.le_trans (hS.2 _ (zs_πP hF hO hi)) (hlen i hi)
  generalize ht : s a = t at *
  -- the table after the row
  have nq : (71 ≤ q 6 ∧ (q 6 ≤ 75 ∨ 160 ≤ q 6)) ∧ (71 ≤ q 7 ∧ (q 7 ≤ 75 ∨ 160 ≤ q 7)) ∧ (71 ≤ q 8 ∧ (q 8 ≤ 75 ∨ 160 ≤ q 8)) ∧ (71 ≤ q 9 ∧ (q 9 ≤ 75 ∨ 160 ≤ q 9)) ∧ (71 ≤ q 5 ∧ (q 5 ≤ 75 ∨ 160 ≤ q 5)) := by
    obtain ⟨⟨rw, pa, ca, lo, hD, -⟩, -⟩ := hB
    have nq := (zs_Q_ne hD.1).2.2.2.2
    exact ⟨nq 6 (by omega) (by omega), nq 7 (by omega) (by omega), nq 8 (by omega) (by omega), nq 9 (by omega) (by omega), nq 5 (by omega) (by omega)⟩
  obtain ⟨q6, q7, q8, q9, q5⟩ := nq
  have fix : ∀ {J' K' n' s' ps' c' a' j'}, zs_BI f π fr P N G g b o Y q R Z sb mk I0 L0 rw0 pa0 ca0 lo0 J' K' n' s' ps' c' a' j' → (∀ x k, 23 ≤ x → x ≤ 60 → J' x k = I0 x k ∧ K' x k = L0 x k) ∧ J' 22 13 = nI b := fun {J' K' n' s' ps' c' a' j'} h => by
    obtain ⟨-, -, -, h5, h6⟩ := h
    exact ⟨fun x k x1 x2 => ⟨h5 x k (by omega) (by omega) (by omega) (by omega) (by omega), h6 x k (by omega)⟩, by rw [h5 22 13 (by omega) (by omega) (by omega) (by omega) (by omega)]; exact hb1⟩
  have raw : ∀ {J' K' n' s' ps' c' a' j'}, zs_BI f π fr P N G g b o Y q R Z sb mk I0 L0 rw0 pa0 ca0 lo0 J' K' n' s' ps' c' a' j' → a < n' → s' a = t → (zx_is (J', K', Y) (q 5) 21 ∧ vp_in (nI (o + a)) (zx_ln (J', K', Y) (q 5))) ∧ K' (q 5) (o + a) = nL (zs_r (g + 1) (zs_dl π fr g t)) ∧ Y.1 22 5 = some (q 5) ∧ o + a < 2 ^ 31 := fun {J' K' n' s' ps' c' a' j'} h ha' hs' => by
    obtain ⟨⟨rw, pa, ca, lo, hD, h1, h2⟩, -⟩ := h
    obtain ⟨hQ, -, hR, hr, -⟩ := hD
    obtain ⟨k1, k2⟩ := zs_ce_is (I := J') (L := K') hQ.2.1.1
    have R6 := hQ.2.2.2.2.1
    refine ⟨⟨k1, by rw [k2]; exact vp_in_nI (by omega) (by omega)⟩, ?_, hQ.1 5 (by omega) (by omega), by omega⟩
    rw [(hr (o + a) (by omega)).1, (h2 a ha').1, hs']
  have selfx : ∀ x, x < 80 → zs_cl f π P fr g b t (x / 10 + 1) (x % 10) = false → (zs_nx f π P fr g b t)[x]? = some t := fun x hx e => by
    rw [zs_nx_at hx]
    unfold zs_ch
    rw [e]; rfl
  -- the loop over lengths
  have outer : ∀ r m, m + r = lg + 1 → 1 ≤ m → ∀ J' K' n' s' ps' c', zs_BI f π fr P N G g b o Y q R Z sb mk I0 L0 rw0 pa0 ca0 lo0 J' K' n' s' ps' c' a ((m - 1) * 10) → a < n' → (∀ i, i ≤ a → s' i = s i) → J' 22 15 = nI u → J' 22 16 = nI w → ∀ v : Int32, zg_mb v (zs_Ul f π P N fr g t m 0) →
      zx_To l E (d + 3) 93 13 [some (.ref 22), some (.int (nI (o + a))), some (.long (nL (zs_r (g + 1) (zs_dl π fr g t)))), none, some (.int v), some (.int (nI m)), none, none, none, none, none, none, none] [] (J', K', Y) (fun r M' => r = none ∧ Qv M') := by
    intro r
    induction r with
    | zero =>
      intro m hm m1 J' K' n' s' ps' c' hB' ha' hs' e15 e16 v hv
      have st : s' a = t := by rw [hs' a (Nat.le_refl _)]; exact ht
      have e9 : J' 23 9 = nI lg := by rw [((fix hB').1 23 9 (by omega) (by omega)).1]; exact hU9
      have hBt := hB'.2.2.1
      have adv : zq_B (zg_st f P) (zs_nx f π P fr g b) s' ps' c' n' (a + 1) 0 := by
        have := zq_B_self hBt ha' (80 - (m - 1) * 10) (fun x x1 x2 => by
          rw [st]
          refine selfx x (by omega) ?_
          cases e : zs_cl f π P fr g b t (x / 10 + 1) (x % 10) with
          | false => rfl
          | true =>
            obtain ⟨c1, c2, -⟩ := zs_cl_iff.mp e
            have := d8 _ (zs_inN hG hg c1)
            omega)
        exact zq_B_a this ha' (by rw [zs_nx_len]; omega)
      have hB2 : zs_BI f π fr P N G g b o Y q R Z sb mk I0 L0 rw0 pa0 ca0 lo0 J' K' n' s' ps' c' (a + 1) 0 := ⟨hB'.1, hB'.2.1, adv, hB'.2.2.2⟩
      have uiff := zs_Ul_un hF hO hG hg (t := t) (l := m) (fun i hi => by have := d8 i hi; omega)
      have zc : lg_cmp (nL (zs_r (g + 1) (zs_dl π fr g t)) &&& (1125899906842623 : Int64)) 0 = 0 ↔ zs_nmb f π P N fr G g t = true := by
        rw [zs_nmb_iff hF hO hG hg, zs_r_all (by omega) dl16, show (0 : Int64) = nL (zs_c 10 (fun _ => 0)) by decide, nL_cmp (by have := zs_c10 (fun i hi => Nat.lt_of_lt_of_le (dl16 i hi) (by decide : 16 ≤ 32)); omega) (by decide)]
        exact ⟨fun e i hi => zs_inj (fun i hi => Nat.lt_of_lt_of_le (dl16 i hi) (by decide : 16 ≤ 32)) (fun _ _ => by decide) e i hi, fun h => zs_c_cong h⟩
      have fin : ∀ J2, (∀ x k, ¬ (x = 22 ∧ (k = 15 ∨ k = 16)) → J2 x k = J' x k) → J2 22 15 = nI (u + (zs_unb f π P N fr G g t).toNat) → J2 22 16 = nI (w + (zs_nmb f π P N fr G g t).toNat) → Qv (J2, K', Y) := fun J2 h1 h2 h3 => hq J2 K' n' s' ps' c' (zs_BI_cong hB2 h1) ha' hs' h2 h3
      refine sg_93_13 hY _ _ _ _ ⟨fun _ => ⟨fun z => ⟨fun z2 => ⟨rfl, ?_⟩, fun z2 => ⟨rfl, ?_⟩⟩, fun z => ⟨fun z2 => ⟨rfl, ?_⟩, fun z2 => ⟨rfl, ?_⟩⟩⟩, fun h => absurd (by rw [e9]; exact (nI_ltI (by omega) (by omega)).mpr (by omega)) h⟩
      all_goals rw [zc] at z2
      · have un : zs_unb f π P N fr G g t = false := by
          cases e : zs_unb f π P N fr G g t with
          | false => rfl
          | true => rcases hv with ⟨v1, -⟩ | ⟨-, v2⟩
                    · rw [z] at v1; exact absurd v1 (by decide)
                    · exact absurd (uiff.mpr e) v2
        rw [Bool.not_eq_true] at z2
        exact fin J' (fun _ _ _ => rfl) (by rw [un, e15]; rfl) (by rw [z2, e16]; rfl)
      · have un : zs_unb f π P N fr G g t = false := by
          cases e : zs_unb f π P N fr G g t with
          | false => rfl
          | true => rcases hv with ⟨v1, -⟩ | ⟨-, v2⟩
                    · rw [z] at v1; exact absurd v1 (by decide)
                    · exact absurd (uiff.mpr e) v2
        exact fin _ (fun x k h => zy_u2_ne (by omega)) (by rw [zy_u2_nk (by omega), un, e15]; rfl) (by rw [zy_u2_self, z2, e16, nI_1]; rfl)
      · have un : zs_unb f π P N fr G g t = true := by
          rcases hv with ⟨-, v2⟩ | ⟨v1, -⟩
          · exact uiff.mp v2
          · exact absurd v1 z
        rw [Bool.not_eq_true] at z2
        exact fin _ (fun x k h => zy_u2_ne (by omega)) (by rw [zy_u2_self, un, e15, nI_1]; rfl) (by rw [zy_u2_nk (by omega), z2, e16]; rfl)
      · have un : zs_unb f π P N fr G g t = true := by
          rcases hv with ⟨-, v2⟩ | ⟨v1, -⟩
          · exact uiff.mp v2
          · exact absurd v1 z
        exact fin _ (fun x k h => by rw [zy_u2_ne (by omega), zy_u2_ne (by omega)]) (by rw [zy_u2_nk (by omega), zy_u2_self, un, e15, nI_1]; rfl) (by rw [zy_u2_self, z2, e16, nI_1]; rfl)
    | succ r ih =>
      intro m hm m1 J' K' n' s' ps' c' hB' ha' hs' e15 e16 v hv
      have e9 : J' 23 9 = nI lg := by rw [((fix hB').1 23 9 (by omega) (by omega)).1]; exact hU9
      refine sg_93_13 hY _ _ _ _ ⟨fun h => ?_, fun _ => ?_⟩
      · rw [e9, nI_ltI (by omega) (by omega)] at h; omega
      refine zy_94 hY (by omega) dl16 (by omega) ⟨hY, ?_⟩
      -- the loop over the names of a length
      have inner : ∀ z y k, y + z = 10 → k ≤ y → ∀ J' K' n' s' ps' c', zs_BI f π fr P N G g b o Y q R Z sb mk I0 L0 rw0 pa0 ca0 lo0 J' K' n' s' ps' c' a ((m - 1) * 10 + y) → a < n' → (∀ i, i ≤ a → s' i = s i) → J' 22 15 = nI u → J' 22 16 = nI w → ∀ v : Int32, zg_mb v (zs_Ul f π P N fr g t m y) →
          zx_To l E (d + 3) 93 36 [some (.ref 22), some (.int (nI (o + a))), some (.long (nL (zs_r (g + 1) (zs_dl π fr g t)))), none, some (.int v), some (.int (nI m)), some (.long (nL (zs_c 10 (zg_bt (zs_My f π fr g t m y))))), none, some (.int (nI k)), none, none, none, none] [] (J', K', Y) (fun r M' => r = none ∧ Qv M') := by
        intro z
        induction z using Nat.strongRecOn with
        | _ z ihz =>
          intro y k hy hk J' K' n' s' ps' c' hB' ha' hs' e15 e16 v hv
          have st : s' a = t := by rw [hs' a (Nat.le_refl _)]; exact ht
          have hBt := hB'.2.2.1
          -- nothing left
          have done : (∀ i, i < 10 → zs_My f π fr g t m y i = false) → zx_To l E (d + 3) 93 13 [some (.ref 22), some (.int (nI (o + a))), some (.long (nL (zs_r (g + 1) (zs_dl π fr g t)))), none, some (.int v), some (.int (nI m + 1)), none, none, none, none, none, none, none] [] (J', K', Y) (fun r M' => r = none ∧ Qv M') := fun hno => by
            have adv := zq_B_self hBt ha' (10 - y) (fun x x1 x2 => by
              rw [st]
              refine selfx x (by omega) ?_
              rw [show x / 10 + 1 = m by omega]
              exact zs_cl_had (hno _ (by omega)) (by omega))
            rw [nI_1]
            refine ih (m + 1) (by omega) (by omega) J' K' n' s' ps' c' ⟨hB'.1, hB'.2.1, ?_, hB'.2.2.2⟩ ha' hs' e15 e16 v (zg_mb_iff hv (zs_Ul_e (fun i hi => hno i (by omega)) m1).symm)
            rw [show (m + 1 - 1) * 10 = (m - 1) * 10 + y + (10 - y) by omega]
            exact adv
          by_cases hno : ∀ i, i < 10 → zs_My f π fr g t m y i = false
          · refine sg_93_36 hY _ _ _ _ _ _ ⟨fun _ => done hno, fun _ => ⟨fun _ => done hno, fun h => absurd ?_ h⟩⟩
            rw [zs_bt_0.mpr hno]; decide
          · have hex : ∃ i, i < 10 ∧ zs_My f π fr g t m y i = true := by
              by_cases q : ∃ i, i < 10 ∧ zs_My f π fr g t m y i = true
              · exact q
              · exact absurd (fun i hi => by
                  cases e : zs_My f π fr g t m y i with
                  | false => rfl
                  | true => exact absurd ⟨i, hi, e⟩ q) hno
            obtain ⟨i', i1, i2⟩ := hex
            obtain ⟨i0, j1, hM, hlo⟩ := zh_le i2
            have yi := zs_My_ge hM
            obtain ⟨hin, hd, -⟩ := zs_My_iff.mp hM
            have hiN := zs_inN hG hg hin
            have nz : ¬ lg_cmp (nL (zs_c 10 (zg_bt (zs_My f π fr g t m y)))) 0 = 0 := fun e => by
              rw [show (0 : Int64) = nL 0 from rfl, nL_cmp zs_bt_lt (by decide)] at e
              have := zs_bt_0.mp (by rw [e]; rfl) i0 (by omega)
              rw [hM] at this; cases this
            have cnt := zs_cm_cnt hF hO hG hg hS m1 hin hd
            have c10 := zy_cnt_le (p := zg_m f P t (π i0)) P
            have P10 := hF.1
            have cpos := zy_cnt_pos (zs_πP hF hO hiN) (zg_m_self (f := f) (s := t) (zs_πP hF hO hiN))
            have len8 := hlen i0 hiN
            have dlen := hS.2 _ (zs_πP hF hO hiN)
            have e13 := (fix hB').2
            refine sg_93_36 hY _ _ _ _ _ _ ⟨fun h => ?_, fun _ => ⟨fun h => absurd h nz, fun _ => ?_⟩⟩
            · rw [zy_10 (by omega)] at h; omega
            refine zy_267 hY (by omega) hM hlo ⟨hY, ?_⟩
            rw [nI_div5 (by omega)]
            refine ⟨vp_in_nI (by omega) (by omega), 39 + i0, by rw [nI_clamp (by omega)]; exact (zs_27 hY (by omega)).2.1, (zs_28 hY (by omega)).2.1.1, ?_, ?_⟩
            · show vp_in (nI m) (zx_ln (J', K', Y) (39 + i0))
              rw [(zs_28 hY (by omega)).2.1.2]; exact vp_in_nI (by omega) (by omega)
            have eK : K' (39 + i0) (nI m).toNatClampNeg = nL (zs_c 10 (zg_bt (zs_sh f N π i0 m))) := by
              rw [nI_clamp (by omega), ((fix hB').1 (39 + i0) m (by omega) (by omega)).2]
              exact (hU.2.1 i0 hiN).2 m m1 (by omega)
            have ewho : (fun i => zs_My f π fr g t m y i && zs_sh f N π i0 m i) = zs_cm f π fr g t m i0 := funext (zs_who hF hO hG hg hS hM)
            have enext : (fun i => zs_My f π fr g t m y i && !zs_cm f π fr g t m i0 i) = zs_My f π fr g t m (i0 + 1) := funext (zs_My_next hM hlo)
            dsimp only
            rw [eK, zs_bt_and, ewho, zs_bt_andnot, enext]
            refine zy_268 hY ⟨hY, ?_⟩
            dsimp only
            rw [cnt, e13]
            have hless : nL (zs_r (g + 1) (zs_dl π fr g t)) - nL (zs_c 10 (zg_bt (zs_cm f π fr g t m i0))) = nL (zs_r (g + 1) (zs_dl π fr g (zh_to f P t (π i0)))) := by
              rw [zs_less (by omega) dl16 (fun i hi hm => by
                obtain ⟨c1, c2, -⟩ := zs_cm_iff.mp hm
                unfold zs_dl
                rw [c1, if_pos rfl]; omega)]
              congr 1
              exact zs_r_cong (fun i hi => (zs_dl_to hF hO hG hg hS m1 hin hd i hi).symm)
            rw [hless]
            -- the table up to the place
            have adv := zq_B_self hBt ha' (i0 - y) (fun x x1 x2 => by
              rw [st]
              refine selfx x (by omega) ?_
              rw [show x / 10 + 1 = m by omega, show x % 10 = y + (x - ((m - 1) * 10 + y)) by omega]
              exact zs_cl_had (hlo _ (by omega)) (by omega))
            rw [show (m - 1) * 10 + y + (i0 - y) = (m - 1) * 10 + i0 by omega] at adv
            have cl := zs_cl_first (P := P) (b := b) hM hlo
            have at_ := zs_nx_at (f := f) (π := π) (P := P) (fr := fr) (g := g) (b := b) (t := t) (x := (m - 1) * 10 + i0) (by omega)
            unfold zs_ch at at_
            rw [show ((m - 1) * 10 + i0) / 10 + 1 = m by omega, show ((m - 1) * 10 + i0) % 10 = i0 by omega, cl] at at_
            -- whichever way, on
            have next : ∀ v' : Int32, zg_mb v' (zs_Ul f π P N fr g t m (i0 + 1)) →
                ((nI b < nI (zy_cnt (zg_m f P t (π i0)) P) → zx_To l E (d + 3) 93 36 [some (.ref 22), some (.int (nI (o + a))), some (.long (nL (zs_r (g + 1) (zs_dl π fr g t)))), none, some (.int v'), some (.int (nI m)), some (.long (nL (zs_c 10 (zg_bt (zs_My f π fr g t m (i0 + 1)))))), none, some (.int (nI k + 1)), none, none, none, none] [] (J', K', Y) (fun r M' => r = none ∧ Qv M')) ∧
                (¬ nI b < nI (zy_cnt (zg_m f P t (π i0)) P) → zx_Cv l E (d + 2) 95 [.ref 22, .long (nL (zs_r (g + 1) (zs_dl π fr g (zh_to f P t (π i0))))), .int (nI (o + a)), .int (nI (zy_cnt (zg_m f P t (π i0)) P))] (J', K', Y) (fun M6 => zx_lay M6.2.2 ∧ zx_To l E (d + 3) 93 36 [some (.ref 22), some (.int (nI (o + a))), some (.long (nL (zs_r (g + 1) (zs_dl π fr g t)))), none, some (.int v'), some (.int (nI m)), some (.long (nL (zs_c 10 (zg_bt (zs_My f π fr g t m (i0 + 1)))))), none, some (.int (nI k + 1)), none, none, none, none] [] (M6.1, M6.2.1, M6.2.2) (fun r M' => r = none ∧ Qv M')))) := fun v' hv' => by
              rw [nI_ltI (by omega) (by omega), nI_1]
              refine ⟨fun hlt => ?_, fun hlt => ?_⟩
              · rw [decide_eq_false (by omega), if_neg (by decide)] at at_
                refine ihz (10 - (i0 + 1)) (by omega) (i0 + 1) (k + 1) (by omega) (by omega) J' K' n' s' ps' c' ⟨hB'.1, hB'.2.1, ?_, hB'.2.2.2⟩ ha' hs' e15 e16 v' hv'
                rw [← Nat.add_assoc]
                exact zq_B_old adv ha' (by rw [st]; exact at_) ha' st
              · rw [decide_eq_true (by omega), if_pos rfl] at at_
                have hE : zh_E f P b (zh_A (zs_g f π N fr G) g) t (π i0) := ⟨zs_πP hF hO hiN, zh_A_iff.mpr (zs_in_g hO hG hg hin), by omega, by omega⟩
                have := zs_add (l := l) (E := E) (d := d) (Qv := fun M6 => zx_lay M6.2.2 ∧ zx_To l E (d + 3) 93 36 [some (.ref 22), some (.int (nI (o + a))), some (.long (nL (zs_r (g + 1) (zs_dl π fr g t)))), none, some (.int v'), some (.int (nI m)), some (.long (nL (zs_c 10 (zg_bt (zs_My f π fr g t m (i0 + 1)))))), none, some (.int (nI (k + 1))), none, none, none, none] [] (M6.1, M6.2.1, M6.2.2) (fun r M' => r = none ∧ Qv M')) hY hC (show zs_BI f π fr P N G g b o Y q R Z sb mk I0 L0 rw0 pa0 ca0 lo0 J' K' n' s' ps' c' a ((m - 1) * 10 + i0) from ⟨hB'.1, hB'.2.1, adv, hB'.2.2.2⟩) ha' (p := π i0) (by rw [st]; exact hE) (by rw [st]; exact at_) (fun J2 K2 n2 s2 ps2 c2 g1 g2 g3 g4 g5 => ⟨hY, ?_⟩)
                · rw [st] at this; exact this
                · exact ihz (10 - (i0 + 1)) (by omega) (i0 + 1) (k + 1) (by omega) (by omega) J2 K2 n2 s2 ps2 c2 g1 g2 (fun i hi => (g3 i hi).trans (hs' i hi)) (g4.trans e15) (g5.trans e16) v' hv'
            have us := zs_Ul_s (P := P) hiN hM hlo
            refine ⟨fun h0 => next 0 (Or.inr ⟨rfl, fun q => ?_⟩), fun h0 => ⟨fun h1 => next 0 (Or.inr ⟨rfl, fun q => ?_⟩), fun h1 => next 1 (Or.inl ⟨rfl, us.mpr ⟨?_, ?_⟩⟩)⟩⟩
            · rcases hv with ⟨v1, -⟩ | ⟨-, v2⟩
              · rw [h0] at v1; exact absurd v1 (by decide)
              · exact v2 (us.mp q).1
            · have := (us.mp q).2
              rw [show (1 : Int32) = nI 1 from rfl, nI_eq (by omega) (by omega)] at h1
              omega
            · rcases hv with ⟨-, v2⟩ | ⟨v1, -⟩
              · exact v2
              · exact absurd v1 h0
            · rw [show (1 : Int32) = nI 1 from rfl, nI_eq (by omega) (by omega)] at h1
              omega
      have e0 : (fun i => decide (zs_dl π fr g t i = m)) = zs_My f π fr g t m 0 := funext (fun i => (zs_My_0 m1 i).symm)
      rw [e0]
      exact inner 10 0 0 (by omega) (Nat.le_refl _) J' K' n' s' ps' c' hB' ha' hs' e15 e16 v hv
  obtain ⟨⟨k1, k2⟩, k3, k4, k5⟩ := raw hB ha ht
  refine sg_93_0 hY _ ⟨q 5, k4, k1, k2, ?_⟩
  rw [nI_clamp k5, k3]
  exact outer lg 1 (by omega) (Nat.le_refl _) J K n s ps c hB ha (fun _ _ => rfl) h15 h16 1 (Or.inl ⟨rfl, fun i _ _ h => by
    rcases h with h | ⟨-, j, hj, -⟩
    · omega
    · omega⟩)
end YX
