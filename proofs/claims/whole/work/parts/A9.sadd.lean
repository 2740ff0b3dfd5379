/-! ===== search: a group as it is searched ===== -/
def zs_BI (f π fr : Nat → Nat) (P N G g b o : Nat) (Y : zx_Y) (q : Nat → Nat) (R Z sb mk : Nat) (I0 : Nat → Nat → Int32) (L0 : Nat → Nat → Int64) (rw0 : Nat → Nat) (pa0 : Nat → Int32) (ca0 lo0 : Nat → Nat) (J : Nat → Nat → Int32) (K : Nat → Nat → Int64) (n : Nat) (s ps c : Nat → Nat) (a j : Nat) : Prop :=
  (∃ rw pa ca lo, zs_Dm J K Y q R Z sb mk (o + n) rw pa ca lo ∧ (∀ i, i < o → rw i = rw0 i ∧ pa i = pa0 i ∧ ca i = ca0 i ∧ lo i = lo0 i) ∧
    ∀ i, i < n → rw (o + i) = zs_r (g + 1) (zs_dl π fr g (s i)) ∧ pa (o + i) = (if i = 0 then -1 else nI (o + ps i)) ∧ ca (o + i) = c i ∧ lo (o + i) = zg_ls f P (s i)) ∧
  (∀ i, i < n → zh_V f P b (zh_A (zs_g f π N fr G) g) (s i) ∧ c i ≤ zg_ls f P (s i)) ∧
  zq_B (zg_st f P) (zs_nx f π P fr g b) s ps c n a j ∧
  (∀ x k, x ≠ q 6 → x ≠ q 7 → x ≠ q 8 → x ≠ q 9 → ¬ (x = 22 ∧ (k = 12 ∨ k = 15 ∨ k = 16)) → J x k = I0 x k) ∧ ∀ x k, x ≠ q 5 → K x k = L0 x k
/-- what a search of a group rests on -/
def zs_CX (f π fr : Nat → Nat) (P N G g b o : Nat) (R sb mk C : Nat) (I0 : Nat → Nat → Int32) (L0 : Nat → Nat → Int64) (rw0 : Nat → Nat) (lg : Nat) : Prop :=
  (zs_F f P ∧ zs_Om f 10 N π ∧ zs_Gr f π N G fr ∧ g < G) ∧ zs_U I0 L0 f N π G fr lg ∧ (I0 22 13 = nI b ∧ b < 2 ^ 31) ∧
  (∀ i, i < o → ∃ k δ, k ≤ g ∧ (∀ x, x < 10 → δ x < 32) ∧ rw0 i = zs_r k δ) ∧
  (∀ ls : List Nat, ls.Nodup → (∀ t, t ∈ ls → zh_V f P b (zh_A (zs_g f π N fr G) g) t) → ls.length ≤ C) ∧ o + C ≤ R ∧ o + C < 2 ^ sb ∧ mk + o + C < 2 ^ 30
theorem zs_dl_lt {f π fr : Nat → Nat} {P N G g t : Nat} (hF : zs_F f P) (hO : zs_Om f 10 N π) (hG : zs_Gr f π N G fr) (hg : g < G) (hS : zg_S f P t) : ∀ i, i < 10 → zs_dl π fr g t i ≤ 8 := fun i _ => by
  unfold zs_dl
  cases e : zs_in fr g i with
  | true =>
    rw [if_pos rfl]
    have hi := zs_inN hG hg e
    exact Nat.le_trans (hS.2 _ (zs_πP hF hO hi)) (zs_F8 hF (hO.2.1 i hi).1)
  | false => rw [if_neg (by decide)]; omega
section YW
variable {l : Launch} {E : zx_E} {d : Nat} {I0 J : Nat → Nat → Int32} {L0 K : Nat → Nat → Int64} {Y : zx_Y} {Qo : Option Value → zx_M → Prop} {Q : Int32 → zx_M → Prop} {Ql : Int64 → zx_M → Prop} {Qv : zx_M → Prop} {f π fr q rw0 ca0 lo0 : Nat → Nat} {pa0 : Nat → Int32} {P N G g b o R Z sb mk C lg n a j : Nat} {s ps c : Nat → Nat}
theorem zs_ls80 (hF : zs_F f P) (t : Nat) : zg_ls f P t ≤ 80 := zg_ls_80 hF.1 (fun p hp => (hF.2.1 p (by have := hF.1; omega)).1)
theorem zs_add (hY : zx_lay Y) (hC : zs_CX f π fr P N G g b o R sb mk C I0 L0 rw0 lg) (hB : zs_BI f π fr P N G g b o Y q R Z sb mk I0 L0 rw0 pa0 ca0 lo0 J K n s ps c a j) (ha : a < n) {p : Nat} (hE : zh_E f P b (zh_A (zs_g f π N fr G) g) (s a) p) (hch : (zs_nx f π P fr g b (s a))[j]? = some (zh_to f P (s a) p))
    (hq : ∀ J' K' n' s' ps' c', zs_BI f π fr P N G g b o Y q R Z sb mk I0 L0 rw0 pa0 ca0 lo0 J' K' n' s' ps' c' a (j + 1) → a < n' → (∀ i, i ≤ a → s' i = s i) → J' 22 15 = J 22 15 → J' 22 16 = J 22 16 → Qv (J', K', Y)) :
    zx_Cv l E (d + 2) 95 [.ref 22, .long (nL (zs_r (g + 1) (zs_dl π fr g (zh_to f P (s a) p)))), .int (nI (o + a)), .int (nI (zy_cnt (zg_m f P (s a) p) P))] (J, K, Y) Qv := by
  obtain ⟨⟨hF, hO, hG, hg⟩, hU, ⟨hb1, hb2⟩, hold, hcap, cR, cS, cM⟩ := hC
  obtain ⟨⟨rw, pa, ca, lo, hD, hor, hn⟩, hV, hBt, hf1, hf2⟩ := hB
  have G6 := hG.1
  have sat := zh_sat_A (g := g) (zs_zh_G hF hO hG)
  have tV := zh_V_to sat (hV a ha).1 hE
  have aS := (hV a ha).1.1
  have dl8 : ∀ t, zg_S f P t → ∀ i, i < 10 → zs_dl π fr g t i < 16 := fun t hS i hi => by have := zs_dl_lt hF hO hG hg hS i hi; omega
  have tlt := zs_r_lt (k := g + 1) (by omega) (dl8 _ tV.1)
  have mpos : ∀ x, x < P → zg_m f P (s a) p x = true → 1 ≤ zg_d (s a) x := fun x _ hm => zg_m_pos aS hE.1 hE.2.2.1 hm
  have els : zg_ls f P (zh_to f P (s a) p) = zg_ls f P (s a) + zy_cnt (zg_m f P (s a) p) P := zg_ls_mv aS mpos
  have cpos := zy_cnt_pos hE.1 (zg_m_self (f := f) (s := s a) hE.1)
  have l80 := zs_ls80 hF (zh_to f P (s a) p)
  have ca80 := (hV a ha).2
  generalize ht : zh_to f P (s a) p = t at *
  have hu := hBt.2.1
  have find : ∀ i, i < o + n → rw i = zs_r (g + 1) (zs_dl π fr g t) → ∃ k, k < n ∧ s k = t := fun i hi e => by
    by_cases z : i < o
    · exfalso
      obtain ⟨k, δ, k1, k2, k3⟩ := hold i z
      rw [(hor i z).1, k3] at e
      have := zs_mark k2 (fun x hx => by have := dl8 t tV.1 x hx; omega) e
      omega
    · refine ⟨i - o, by omega, ?_⟩
      have := (hn (i - o) (by omega)).1
      rw [show o + (i - o) = i by omega, e] at this
      exact (zs_raw_inj hF hO hG hg tV (hV (i - o) (by omega)).1 this).symm
  refine zy_95 (cv := c a + 1) (lv := zg_ls f P t) hY hD tlt (fun i hi e => ?_) (fun hno => ?_) (fun J' K' hno hfa hD' => ?_)
  · obtain ⟨k, k1, k2⟩ := find i hi e
    exact hq J K n s ps c ⟨⟨rw, pa, ca, lo, hD, hor, hn⟩, hV, zq_B_old hBt ha hch k1 k2, hf1, hf2⟩ ha (fun _ _ => rfl) rfl rfl
  · have nd : ((List.range n).map s ++ [t]).Nodup := by
      refine List.nodup_append.mpr ⟨?_, List.nodup_cons.mpr ⟨fun h => (by cases h), List.nodup_nil⟩, fun x hx y hy e => ?_⟩
      · have := zh_nd (s := s) (p := fun _ => true) hu
        rw [List.filter_eq_self.mpr (fun _ _ => rfl)] at this
        exact this
      · obtain ⟨i, hi, ei⟩ := List.mem_map.mp hx
        have hi := List.mem_range.mp hi
        rw [List.mem_singleton.mp hy, ← ei] at e
        refine hno (o + i) (by omega) ?_
        rw [(hn i hi).1, e]
    have := hcap _ nd (fun x hx => by
      rcases List.mem_append.mp hx with h | h
      · obtain ⟨i, hi, ei⟩ := List.mem_map.mp h
        rw [← ei]; exact (hV i (List.mem_range.mp hi)).1
      · rw [List.mem_singleton.mp h]; exact tV)
    rw [List.length_append, List.length_map, List.length_range, List.length_singleton] at this
    refine ⟨by omega, by omega, by omega, by omega, by omega, Or.inr ⟨o + a, _, by omega, rfl, rfl, ?_, ?_⟩⟩
    · rw [(hn a ha).2.2.1]
    · rw [(hn a ha).2.2.2]; exact els
  · have hnn : ∀ k, k < n → s k ≠ t := fun k hk e => by
      refine hno (o + k) (by omega) ?_
      rw [(hn k hk).1, e]
    have g22 := (zs_Q_ne hD.1).2.2.2.2
    have q6 := g22 6 (by omega) (by omega)
    have q7 := g22 7 (by omega) (by omega)
    have q8 := g22 8 (by omega) (by omega)
    have q9 := g22 9 (by omega) (by omega)
    refine hq J' K' (n + 1) (fun i => if i = n then t else s i) (fun i => if i = n then a else ps i) (fun i => if i = n then c a + 1 else c i) ⟨⟨_, _, _, _, hD', fun i hi => ?_, fun i hi => ?_⟩, fun i hi => ?_, ?_, fun x k x1 x2 x3 x4 x5 => ?_, fun x k x1 => ?_⟩ (by omega) (fun i hi => if_neg (by omega)) (hfa.1 _ _ (by omega) (by omega) (by omega) (by omega) (by omega)) (hfa.1 _ _ (by omega) (by omega) (by omega) (by omega) (by omega))
    · rw [if_neg (by omega), if_neg (by omega), if_neg (by omega), if_neg (by omega)]; exact hor i hi
    · dsimp only
      by_cases e : i = n
      · rw [if_pos (show o + i = o + n by omega), if_pos (show o + i = o + n by omega), if_pos (show o + i = o + n by omega), if_pos (show o + i = o + n by omega), if_pos e, if_pos e, if_pos e, if_neg (by omega)]
        exact ⟨rfl, rfl, rfl, rfl⟩
      · rw [if_neg (show ¬ o + i = o + n by omega), if_neg (show ¬ o + i = o + n by omega), if_neg (show ¬ o + i = o + n by omega), if_neg (show ¬ o + i = o + n by omega), if_neg e, if_neg e, if_neg e]
        exact hn i (by omega)
    · dsimp only
      by_cases e : i = n
      · rw [if_pos e, if_pos e]; exact ⟨tV, by omega⟩
      · rw [if_neg e, if_neg e]; exact hV i (by omega)
    · exact zq_B_new hBt ha hch hnn (fun i hi => if_neg (by omega)) (fun i hi => if_neg (by omega)) (fun i hi => if_neg (by omega)) (if_pos rfl) (if_pos rfl) (if_pos rfl)
    · rw [hfa.1 x k x1 x2 x3 x4 (by omega)]; exact hf1 x k x1 x2 x3 x4 x5
    · rw [hfa.2 x k x1]; exact hf2 x k x1
theorem zy_92 (hY : zx_lay Y) {I : Nat → Nat → Int32} {L : Nat → Nat → Int64} {g : Nat} (hg : g < 7) (hq : Ql (nL (zs_r (g + 1) (fun _ => 0))) (I, L, Y)) : zx_Cl l E d 92 [.int (nI g)] (I, L, Y) Ql := by
  refine sg_92_0 hY _ ?_
  rw [zs_r_mark hg]
  exact ⟨_, rfl, hq⟩
theorem zy_94 (hY : zx_lay Y) {I : Nat → Nat → Int32} {L : Nat → Nat → Int64} {k x : Nat} {δ : Nat → Nat} (hk : k < 8) (hδ : ∀ i, i < 10 → δ i < 16) (hx : x < 16) (hq : Ql (nL (zs_c 10 (zg_bt (fun i => decide (δ i = x))))) (I, L, Y)) : zx_Cl l E d 94 [.long (nL (zs_r k δ)), .int (nI x)] (I, L, Y) Ql := by
  refine sg_94_0 hY _ _ ?_
  rw [zs_pw hk hδ hx]
  exact ⟨_, rfl, hq⟩
/-- the first state of a group -/
theorem zy_91 (hY : zx_lay Y) {I : Nat → Nat → Int32} {L : Nat → Nat → Int64} (hF : zs_F f P) (hO : zs_Om f 10 N π) (hG : zs_Gr f π N G fr) (hg : g < G) (hU : zs_U I L f N π G fr lg) (hq : Ql (nL (zs_r (g + 1) (zs_dl π fr g (zg_st f P)))) (I, L, Y)) : zx_Cl l E (d + 1) 91 [.ref 22, .int (nI g)] (I, L, Y) Ql := by
  have G6 := hG.1
  have hN := hO.1
  have hP := hF.1
  have frN : ∀ g, g ≤ G → fr g ≤ N := fun g hg => by have := zs_Gr_mono hG hg (Nat.le_refl _); rw [hG.2.2.1] at this; exact this
  have f1 := frN g (by omega)
  have f2 := frN (g + 1) (by omega)
  refine sg_91_0 hY _ (zy_92 hY (by omega) ⟨hY, ?_, vp_in_nI (by omega) (by omega), ?_⟩)
  · rw [nI_1]; exact vp_in_nI (by omega) (by omega)
  rw [nI_1, nI_clamp (by omega), nI_clamp (by omega)]
  dsimp only
  rw [hU.2.2.1.2 _ (by omega), hU.2.2.1.2 _ (by omega)]
  have key : ∀ r i, i + r = fr (g + 1) → fr g ≤ i → zx_To l E (d + 1) 91 29 [some (.ref 22), none, some (.long (nL (zs_r (g + 1) (fun x => if x < i then zs_dl π fr g (zg_st f P) x else 0)))), none, some (.int (nI (fr (g + 1)))), some (.int (nI i))] [] (I, L, Y) (fun r M' => ∃ v, r = some (.long v) ∧ Ql v M') := by
    intro r
    induction r with
    | zero =>
      intro i hi h1
      refine sg_91_29 hY _ _ _ ⟨fun _ => ⟨_, rfl, ?_⟩, fun h => absurd ((nI_leI (by omega) (by omega)).mpr (by omega)) h⟩
      rw [zs_r_cong (δ' := zs_dl π fr g (zg_st f P)) (fun x _ => ?_)]
      · exact hq
      · by_cases z : x < i
        · rw [if_pos z]
        · rw [if_neg z]
          unfold zs_dl zs_in
          rw [decide_eq_false (show ¬ x < fr (g + 1) by omega), Bool.and_false]; rfl
    | succ r ih =>
      intro i hi h1
      have hiN : i < N := by omega
      have l8 := zs_8 hF hO i hiN
      have hin : zs_in fr g i = true := zs_in_iff.mpr ⟨h1, by omega⟩
      refine sg_91_29 hY _ _ _ ⟨fun h => ?_, fun _ => ⟨vp_in_nI (by omega) (by omega), ?_⟩⟩
      · rw [nI_leI (by omega) (by omega)] at h; omega
      have dlt : ∀ x, x < 10 → zs_dl π fr g (zg_st f P) x ≤ 8 := zs_dl_lt hF hO hG hg (zg_st_S (fun p hp => zs_F8 hF (by omega)))
      rw [nI_clamp (by omega), (hU.2.1 i hiN).1.1, zs_put (k := g + 1) (δ := fun x => if x < i then zs_dl π fr g (zg_st f P) x else 0) (v := zy_len (f (π i))) (p := i) (by omega) (fun x hx => by
        have := dlt x hx
        split <;> omega) (by omega) (by omega) (if_neg (by omega)), nI_1]
      have := ih (i + 1) (by omega) (by omega)
      rw [zs_r_cong (δ' := fun x => if x < i + 1 then zs_dl π fr g (zg_st f P) x else 0) (fun x _ => ?_)]
      · exact this
      · by_cases z : x = i
        · rw [if_pos z, if_pos (by omega), z]
          unfold zs_dl
          rw [hin, if_pos rfl, zg_st_d (fun p hp => zs_F8 hF (by omega)) (zs_πP hF hO hiN)]
        · rw [if_neg z]
          by_cases z2 : x < i
          · rw [if_pos z2, if_pos (by omega)]
          · rw [if_neg z2, if_neg (by omega)]
  have := key (fr (g + 1) - fr g) (fr g) (by have := hG.2.2.2.1 g hg; omega) (Nat.le_refl _)
  rw [zs_r_cong (δ' := fun _ => 0) (fun x _ => ?_)] at this
  · exact this
  · by_cases z : x < fr g
    · rw [if_pos z]
      unfold zs_dl zs_in
      rw [decide_eq_false (show ¬ fr g ≤ x by omega), Bool.false_and]; rfl
    · rw [if_neg z]
end YW
