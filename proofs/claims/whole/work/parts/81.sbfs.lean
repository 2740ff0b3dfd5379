/-! ===== search: breadth first, any graph ===== -/
/-- a way of k steps -/
def zq_P (st : Nat) (nx : Nat → List Nat) : Nat → Nat → Prop
  | 0, t => t = st
  | k + 1, t => ∃ u, zq_P st nx k u ∧ t ∈ nx u
/-- a table of n rows (state, parent, depth): rows below a are spread, and of row a the first j children -/
def zq_B (st : Nat) (nx : Nat → List Nat) (s p c : Nat → Nat) (n a j : Nat) : Prop :=
  (0 < n ∧ s 0 = st ∧ c 0 = 0 ∧ a ≤ n ∧ (0 < j → a < n)) ∧
  (∀ i k, i < n → k < n → s i = s k → i = k) ∧
  (∀ i, 0 < i → i < n → p i < i ∧ p i ≤ a ∧ (∃ x : Nat, (nx (s (p i)))[x]? = some (s i) ∧ (p i = a → x < j)) ∧ c i = c (p i) + 1 ∧ ∀ k, k < p i → s i ∉ nx (s k)) ∧
  ((∀ i, i < a → ∀ t ∈ nx (s i), ∃ k, k < n ∧ s k = t) ∧ ∀ (x t : Nat), x < j → (nx (s a))[x]? = some t → ∃ k, k < n ∧ s k = t) ∧
  (∀ i k, 0 < i → i < k → k < n → p i < p k ∨ (p i = p k ∧ ∃ x y : Nat, x < y ∧ (nx (s (p i)))[x]? = some (s i) ∧ (nx (s (p i)))[y]? = some (s k)))
section QB
variable {st : Nat} {nx : Nat → List Nat} {s p c s' p' c' : Nat → Nat} {n a j : Nat}
theorem zq_B_0 (h1 : s 0 = st) (h2 : c 0 = 0) : zq_B st nx s p c 1 0 0 :=
  ⟨⟨by omega, h1, h2, by omega, fun h => by omega⟩, fun i k hi hk _ => by omega, fun i h0 hi => by omega, ⟨fun i hi => by omega, fun x t hx => by omega⟩, fun i k h0 hik hk => by omega⟩
/-- the next row -/
theorem zq_B_a (h : zq_B st nx s p c n a j) (ha : a < n) (hj : (nx (s a)).length ≤ j) : zq_B st nx s p c n (a + 1) 0 := by
  obtain ⟨⟨h1, h2, h3, h4, h5⟩, g1, g2, ⟨g3, g4⟩, g5⟩ := h
  refine ⟨⟨h1, h2, h3, by omega, fun h => by omega⟩, g1, fun i i0 hi => ?_, ⟨fun i hi t ht => ?_, fun x t hx => by omega⟩, g5⟩
  · obtain ⟨q1, q2, ⟨x, q3, q4⟩, q5, q6⟩ := g2 i i0 hi
    exact ⟨q1, by omega, ⟨x, q3, fun e => by omega⟩, q5, q6⟩
  · by_cases e : i < a
    · exact g3 i e t ht
    · have e : i = a := by omega
      subst e
      obtain ⟨x, hx, ex⟩ := List.getElem_of_mem ht
      exact g4 x t (by omega) (by rw [List.getElem?_eq_getElem hx, ex])
/-- a child that is there -/
theorem zq_B_old (h : zq_B st nx s p c n a j) (ha : a < n) {t : Nat} (ht : (nx (s a))[j]? = some t) {k : Nat} (hk : k < n) (e : s k = t) : zq_B st nx s p c n a (j + 1) := by
  obtain ⟨⟨h1, h2, h3, h4, h5⟩, g1, g2, ⟨g3, g4⟩, g5⟩ := h
  refine ⟨⟨h1, h2, h3, h4, fun _ => ha⟩, g1, fun i i0 hi => ?_, ⟨g3, fun x t' hx hx' => ?_⟩, g5⟩
  · obtain ⟨q1, q2, ⟨x, q3, q4⟩, q5, q6⟩ := g2 i i0 hi
    exact ⟨q1, q2, ⟨x, q3, fun e => by have := q4 e; omega⟩, q5, q6⟩
  · by_cases e2 : x < j
    · exact g4 x t' e2 hx'
    · have e2 : x = j := by omega
      subst e2
      rw [ht] at hx'
      cases hx'
      exact ⟨k, hk, e⟩
/-- a new child -/
theorem zq_B_new (h : zq_B st nx s p c n a j) (ha : a < n) {t : Nat} (ht : (nx (s a))[j]? = some t) (hn : ∀ k, k < n → s k ≠ t)
    (hs : ∀ i, i < n → s' i = s i) (hp : ∀ i, i < n → p' i = p i) (hc : ∀ i, i < n → c' i = c i) (es : s' n = t) (ep : p' n = a) (ec : c' n = c a + 1) : zq_B st nx s' p' c' (n + 1) a (j + 1) := by
  obtain ⟨⟨h1, h2, h3, h4, h5⟩, g1, g2, ⟨g3, g4⟩, g5⟩ := h
  have row : ∀ i, 0 < i → i < n + 1 → (p' i < i ∧ p' i ≤ a) ∧ s' (p' i) = s (p' i) := fun i i0 hi => by
    by_cases e : i = n
    · subst e; rw [ep]; exact ⟨⟨ha, Nat.le_refl _⟩, hs a ha⟩
    · obtain ⟨q1, q2, -⟩ := g2 i i0 (by omega)
      rw [hp i (by omega)]; exact ⟨⟨q1, q2⟩, hs _ (by omega)⟩
  refine ⟨⟨by omega, by rw [hs 0 h1, h2], by rw [hc 0 h1, h3], by omega, fun _ => by omega⟩, fun i k hi hk e => ?_, fun i i0 hi => ?_, ⟨fun i hi t' ht' => ?_, fun x t' hx hx' => ?_⟩, fun i k i0 hik hk => ?_⟩
  · by_cases e1 : i = n
    · by_cases e2 : k = n
      · omega
      · rw [e1, es, hs k (by omega)] at e; exact absurd e.symm (hn k (by omega))
    · by_cases e2 : k = n
      · rw [e2, es, hs i (by omega)] at e; exact absurd e (hn i (by omega))
      · rw [hs i (by omega), hs k (by omega)] at e; exact g1 i k (by omega) (by omega) e
  · obtain ⟨⟨r1, r2⟩, r3⟩ := row i i0 hi
    refine ⟨r1, r2, ?_, ?_, fun k hk => ?_⟩
    · rw [r3]
      by_cases e : i = n
      · subst e; rw [es, ep]; exact ⟨j, ht, fun _ => by omega⟩
      · obtain ⟨q1, q2, ⟨x, q3, q4⟩, -⟩ := g2 i i0 (by omega)
        rw [hs i (by omega), hp i (by omega)]; exact ⟨x, q3, fun e => by have := q4 e; omega⟩
    · by_cases e : i = n
      · subst e; rw [ec, ep, hc a ha]
      · obtain ⟨q1, q2, -, q5, -⟩ := g2 i i0 (by omega)
        rw [hc i (by omega), hp i (by omega), hc _ (by omega), q5]
    · by_cases e : i = n
      · subst e
        rw [ep] at hk
        rw [es, hs k (by omega)]
        intro q
        obtain ⟨z, z1, z2⟩ := g3 k hk t q
        exact hn z z1 z2
      · obtain ⟨q1, q2, -, -, q6⟩ := g2 i i0 (by omega)
        rw [hp i (by omega)] at hk
        rw [hs i (by omega), hs k (by omega)]
        exact q6 k hk
  · rw [hs i (by omega)] at ht'
    obtain ⟨k, k1, k2⟩ := g3 i hi t' ht'
    exact ⟨k, by omega, by rw [hs k k1]; exact k2⟩
  · rw [hs a ha] at hx'
    by_cases e2 : x < j
    · obtain ⟨k, k1, k2⟩ := g4 x t' e2 hx'
      exact ⟨k, by omega, by rw [hs k k1]; exact k2⟩
    · have e2 : x = j := by omega
      subst e2
      rw [ht] at hx'
      cases hx'
      exact ⟨n, by omega, es⟩
  · obtain ⟨-, r3⟩ := row i i0 (by omega)
    rw [r3, hs i (by omega), hp i (by omega)]
    by_cases e : k = n
    · subst e
      rw [ep, es]
      obtain ⟨q1, q2, ⟨x, q3, q4⟩, -⟩ := g2 i i0 hik
      by_cases e2 : p i = a
      · refine Or.inr ⟨e2, x, j, q4 e2, q3, ?_⟩
        rw [e2]; exact ht
      · exact Or.inl (by omega)
    · rw [hp k (by omega), hs k (by omega)]
      exact g5 i k i0 hik (by omega)
/-- the parents rise -/
theorem zq_pm (h : zq_B st nx s p c n a j) {i k : Nat} (i0 : 0 < i) (hik : i ≤ k) (hk : k < n) : p i ≤ p k := by
  obtain ⟨-, -, -, -, g5⟩ := h
  by_cases e : i = k
  · rw [e]; exact Nat.le_refl _
  · rcases g5 i k i0 (by omega) hk with q | q <;> omega
theorem zq_cm (h : zq_B st nx s p c n a j) : ∀ k, k < n → ∀ i, i ≤ k → c i ≤ c k := by
  intro k
  induction k using Nat.strongRecOn with
  | _ k ih =>
    intro hk i hik
    obtain ⟨⟨h1, h2, h3, h4, h5⟩, g1, g2, -, -⟩ := id h
    by_cases i0 : i = 0
    · rw [i0, h3]; omega
    · obtain ⟨q1, -, -, q5, -⟩ := g2 i (by omega) (by omega)
      obtain ⟨r1, -, -, r5, -⟩ := g2 k (by omega) hk
      have := ih (p k) r1 (by omega) (p i) (zq_pm h (by omega) hik hk)
      omega
theorem zq_reach (h : zq_B st nx s p c n a j) : ∀ i, i < n → zq_P st nx (c i) (s i) := by
  intro i
  induction i using Nat.strongRecOn with
  | _ i ih =>
    intro hi
    obtain ⟨⟨h1, h2, h3, h4, h5⟩, g1, g2, -, -⟩ := id h
    by_cases i0 : i = 0
    · rw [i0, h3]; exact h2
    · obtain ⟨q1, -, ⟨x, q3, -⟩, q5, -⟩ := g2 i (by omega) hi
      rw [q5]
      exact ⟨s (p i), ih _ q1 (by omega), List.mem_of_getElem? q3⟩
/-- all spread -/
theorem zq_all (h : zq_B st nx s p c n n j) : ∀ k t, zq_P st nx k t → ∃ i, i < n ∧ s i = t ∧ c i ≤ k
  | 0, t, ht => by
    obtain ⟨⟨h1, h2, h3, h4, h5⟩, -⟩ := h
    exact ⟨0, h1, by rw [h2]; exact ht.symm, by omega⟩
  | k + 1, t, ⟨u, hu, ht⟩ => by
    obtain ⟨i, i1, i2, i3⟩ := zq_all h k u hu
    obtain ⟨⟨h1, h2, h3, h4, h5⟩, g1, g2, ⟨g3, -⟩, -⟩ := id h
    obtain ⟨m, m1, m2⟩ := g3 i i1 t (by rw [i2]; exact ht)
    refine ⟨m, m1, m2, ?_⟩
    by_cases m0 : m = 0
    · rw [m0, h3]; omega
    · obtain ⟨q1, -, -, q5, q6⟩ := g2 m (by omega) m1
      have : p m ≤ i := by
        by_cases z : p m ≤ i
        · exact z
        · exact absurd (by rw [m2, i2]; exact ht) (q6 i (by omega))
      have := zq_cm h i i1 (p m) this
      omega
/-- the rows under a row that comes first come first -/
theorem zq_under (h : zq_B st nx s p c n n j) {x y v w : Nat} (hx : x < y) (hw : w < n) (w0 : 0 < w) (ew : p w = y) (hv : v < n) (v0 : 0 < v) (ev : s v ∈ nx (s x)) : v < w := by
  obtain ⟨⟨h1, h2, h3, h4, h5⟩, g1, g2, ⟨g3, -⟩, g5⟩ := id h
  obtain ⟨q1, -, -, q5, q6⟩ := g2 v v0 hv
  have hpv : p v ≤ x := by
    by_cases z : p v ≤ x
    · exact z
    · exact absurd ev (q6 x (by omega))
  by_cases z : v < w
  · exact z
  · have := zq_pm h w0 (show w ≤ v by omega) hv
    omega
/-- a way down from row x -/
def zq_D (nx : Nat → List Nat) (s c : Nat → Nat) (n : Nat) : Nat → Nat → Nat → Prop
  | 0, x, v => x = v ∧ v < n
  | r + 1, x, v => ∃ y, y < n ∧ s y ∈ nx (s x) ∧ c y = c x + 1 ∧ zq_D nx s c n r y v
/-- the row r parents above w -/
def zq_up (p : Nat → Nat) : Nat → Nat → Nat
  | 0, w => w
  | r + 1, w => zq_up p r (p w)
theorem zq_up_s : ∀ r w, zq_up p (r + 1) w = p (zq_up p r w)
  | 0, w => rfl
  | r + 1, w => by rw [zq_up, zq_up_s r (p w), zq_up]
theorem zq_up_c (h : zq_B st nx s p c n a j) : ∀ r w, w < n → r ≤ c w → zq_up p r w < n ∧ c (zq_up p r w) + r = c w
  | 0, w, hw, hr => ⟨hw, rfl⟩
  | r + 1, w, hw, hr => by
    obtain ⟨u1, u2⟩ := zq_up_c h r w hw (by omega)
    obtain ⟨⟨h1, h2, h3, h4, h5⟩, g1, g2, -, -⟩ := id h
    have : zq_up p r w ≠ 0 := fun q => by rw [q, h3] at u2; omega
    obtain ⟨q1, -, -, q5, -⟩ := g2 _ (by omega) u1
    rw [zq_up_s]
    exact ⟨by omega, by omega⟩
/-- a way down from a row before the row above w ends before w -/
theorem zq_first (h : zq_B st nx s p c n n j) : ∀ r x w v, w < n → r ≤ c w → x < n → x < zq_up p r w → zq_D nx s c n r x v → v < w
  | 0, x, w, v, hw, hr, hx, hlt, hD => by obtain ⟨rfl, -⟩ := hD; exact hlt
  | r + 1, x, w, v, hw, hr, hx, hlt, ⟨y, y1, y2, y3, hD⟩ => by
    obtain ⟨u1, u2⟩ := zq_up_c h r w hw (by omega)
    obtain ⟨⟨h1, h2, h3, h4, h5⟩, -⟩ := id h
    have z : zq_up p r w ≠ 0 := fun q => by rw [q, h3] at u2; omega
    have y0 : y ≠ 0 := fun q => by rw [q, h3] at y3; omega
    rw [zq_up_s] at hlt
    exact zq_first h r y w v hw (by omega) y1 (zq_under h hlt u1 (by omega) rfl y1 (by omega) y2) hD
/-- of the first row w of a kind, the way by parents takes at each step the first child that leads to the kind -/
theorem zq_least (h : zq_B st nx s p c n n j) {W : Nat → Prop} {w : Nat} (hw : w < n) (hW : ∀ v, v < w → ¬ W v) {r : Nat} (hr : r + 1 ≤ c w) {y v x z : Nat} (hy : y < n) (cy : c y = c (zq_up p (r + 1) w) + 1) (ex : (nx (s (zq_up p (r + 1) w)))[x]? = some (s y)) (ez : (nx (s (zq_up p (r + 1) w)))[z]? = some (s (zq_up p r w))) (hu : ∀ (x z t : Nat), (nx (s (zq_up p (r + 1) w)))[x]? = some t → (nx (s (zq_up p (r + 1) w)))[z]? = some t → x = z) (hD : zq_D nx s c n r y v) (hv : W v) : z ≤ x := by
  by_cases lt : z ≤ x
  · exact lt
  · obtain ⟨u1, u2⟩ := zq_up_c h r w hw (by omega)
    obtain ⟨⟨h1, h2, h3, h4, h5⟩, g1, g2, -, g5⟩ := id h
    have z0 : zq_up p r w ≠ 0 := fun q => by rw [q, h3] at u2; omega
    have y0 : y ≠ 0 := fun q => by rw [q, h3] at cy; omega
    have up := zq_up_s (p := p) r w
    have ylt : y < zq_up p r w := by
      by_cases l1 : y < zq_up p r w
      · exact l1
      · by_cases l2 : y = zq_up p r w
        · rw [l2] at ex
          have := hu x z _ ex ez
          omega
        · obtain ⟨q1, -, -, -, q6⟩ := g2 y (by omega) hy
          have py : p y ≤ zq_up p (r + 1) w := by
            by_cases l3 : p y ≤ zq_up p (r + 1) w
            · exact l3
            · exact absurd (List.mem_of_getElem? ex) (q6 _ (by omega))
          rcases g5 (zq_up p r w) y (by omega) (by omega) hy with q | ⟨q, x', y', q1, q2, q3⟩
          · rw [← up] at q; omega
          · rw [← up] at q2 q3
            have e1 := hu _ _ _ q2 ez
            have e2 := hu _ _ _ q3 ex
            omega
    exact absurd hv (hW v (zq_first h r y w v hw (by omega) hy ylt hD))
end QB
