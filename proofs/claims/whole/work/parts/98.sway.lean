/-! ===== search: the least row of calls, merged out of the groups' ===== -/
theorem zh_lex {G : Nat} {a a' e e' : Nat → Nat} (h1 : ∀ g, g < G → e g < 128) (h : ∀ g, g < G → a g * 128 + e g ≤ a' g * 128 + e' g) (h2 : ∀ g, g < G → e' g < 128) (s1 : zg_sm e G < 128) (ht : zg_sm a' G * 128 + zg_sm e' G ≤ zg_sm a G * 128 + zg_sm e G) : ∀ g, g < G → a g = a' g ∧ e g = e' g := by
  have le : ∀ g, g < G → a g ≤ a' g := fun g hg => by have := h g hg; have := h1 g hg; have := h2 g hg; omega
  have sa := zg_sm_le le
  have ea := zg_sm_eq le (by omega)
  have le2 : ∀ g, g < G → e g ≤ e' g := fun g hg => by have := h g hg; have := ea g hg; omega
  have se := zg_sm_le le2
  have ea' := zg_sm_cong ea
  have ee := zg_sm_eq le2 (by omega)
  exact fun g hg => ⟨ea g hg, ee g hg⟩
/-- as zq_least, where only the two children need be found once -/
theorem zq_least' {st : Nat} {nx : Nat → List Nat} {s p c : Nat → Nat} {n j : Nat} (h : zq_B st nx s p c n n j) {W : Nat → Prop} {w : Nat} (hw : w < n) (hW : ∀ v, v < w → ¬ W v) {r : Nat} (hr : r + 1 ≤ c w) {y v x z : Nat} (hy : y < n) (cy : c y = c (zq_up p (r + 1) w) + 1) (ex : (nx (s (zq_up p (r + 1) w)))[x]? = some (s y)) (ez : (nx (s (zq_up p (r + 1) w)))[z]? = some (s (zq_up p r w)))
    (hu1 : ∀ (x z : Nat), (nx (s (zq_up p (r + 1) w)))[x]? = some (s y) → (nx (s (zq_up p (r + 1) w)))[z]? = some (s y) → x = z) (hu2 : ∀ (x z : Nat), (nx (s (zq_up p (r + 1) w)))[x]? = some (s (zq_up p r w)) → (nx (s (zq_up p (r + 1) w)))[z]? = some (s (zq_up p r w)) → x = z) (hD : zq_D nx s c n r y v) (hv : W v) : z ≤ x := by
  by_cases lt : z ≤ x
  · exact lt
  · obtain ⟨u1, u2⟩ := zq_up_c h r w hw (by omega)
    obtain ⟨⟨h1, h2, h3, h4, h5⟩, g1, g2, -, g5⟩ := id h
    have z0 : zq_up p r w ≠ 0 := fun q => by rw [q, h3] at u2; omega
    have y0 : y ≠ 0 := fun q => by rw [q, h3] at cy; omega
    have up := zq_up_s (p := p) r w
    have ylt : y < zq_up p r w := by
      by_cases l1 : y < zq_up p r w
      · exact l1
      · by_cases l2 : y = zq_up p r w
        · rw [l2] at ex
          have := hu2 x z ex ez
          omega
        · obtain ⟨q1, -, -, -, q6⟩ := g2 y (by omega) hy
          have py : p y ≤ zq_up p (r + 1) w := by
            by_cases l3 : p y ≤ zq_up p (r + 1) w
            · exact l3
            · exact absurd (List.mem_of_getElem? ex) (q6 _ (by omega))
          rcases g5 (zq_up p r w) y (by omega) (by omega) hy with q | ⟨q, x', y', q1, q2, q3⟩
          · rw [← up] at q; omega
          · rw [← up] at q2 q3
            have e1 := hu2 _ _ q2 ez
            have e2 := hu1 _ _ q3 ex
            omega
    exact absurd hv (hW v (zq_first h r y w v hw (by omega) hy ylt hD))
section HW
variable {f : Nat → Nat} {P b : Nat} {A : Nat → Bool} {nx : Nat → List Nat} {s ps c : Nat → Nat} {n : Nat}
theorem zh_W_front : ∀ {k x t : Nat}, zh_W f P b A x (k + 1) t → ∃ p, zh_E f P b A x p ∧ zh_W f P b A (zh_to f P x p) k t
  | 0, x, t, ⟨u, p, h1, h2, e⟩ => by
    have h1 : u = x := h1
    rw [h1] at h2 e
    exact ⟨p, h2, e⟩
  | k + 1, x, t, ⟨u, p, h1, h2, e⟩ => by
    obtain ⟨q, q1, q2⟩ := zh_W_front h1
    exact ⟨q, q1, u, p, q2, h2, e⟩
theorem zh_W_one {x p : Nat} (h : zh_E f P b A x p) : zh_W f P b A x 1 (zh_to f P x p) := ⟨x, p, rfl, h, rfl⟩
/-- an edge between rows -/
theorem zh_row_E (hx : zh_nx f P b A nx) (hT : zh_T f P b A n s c) {x y : Nat} (hxn : x < n) (hyn : y < n) (hm : s y ∈ nx (s x)) (hc : c y = c x + 1) : ∃ p, zh_E f P b A (s x) p ∧ s y = zh_to f P (s x) p := by
  rcases (hx (s x) (hT.2.1 x hxn).1).1 _ hm with e | e
  · have := hT.1 y x hyn hxn e
    rw [this] at hc; omega
  · exact e
theorem zh_D_W (hx : zh_nx f P b A nx) (hT : zh_T f P b A n s c) : ∀ {r x v : Nat}, x < n → zq_D nx s c n r x v → zh_W f P b A (s x) r (s v) ∧ c v = c x + r ∧ v < n
  | 0, x, v, hxn, h => by
    obtain ⟨h1, h2⟩ := h
    rw [h1]
    exact ⟨rfl, rfl, h2⟩
  | r + 1, x, v, hxn, ⟨y, y1, y2, y3, hD⟩ => by
    obtain ⟨d1, d2, d3⟩ := zh_D_W hx hT y1 hD
    obtain ⟨p, p1, p2⟩ := zh_row_E hx hT hxn y1 y2 y3
    refine ⟨?_, by omega, d3⟩
    have := zh_W_one p1
    rw [← p2] at this
    have := zh_W_add this d1
    rw [Nat.add_comm] at this
    exact this
theorem zh_W_D (hx : zh_nx f P b A nx) (hT : zh_T f P b A n s c) : ∀ {r x v : Nat}, x < n → v < n → zh_W f P b A (s x) r (s v) → c v = c x + r → zq_D nx s c n r x v
  | 0, x, v, hxn, hvn, h, hc => by
    have h : s v = s x := h
    exact ⟨(hT.1 v x hvn hxn h).symm, hvn⟩
  | r + 1, x, v, hxn, hvn, h, hc => by
    obtain ⟨p, p1, p2⟩ := zh_W_front h
    obtain ⟨xS, xW⟩ := hT.2.1 x hxn
    obtain ⟨y, y1, y2, y3⟩ := hT.2.2 _ _ (zh_W_add xW (zh_W_one p1))
    rw [← y2] at p2
    obtain ⟨v', v1, v2, v3⟩ := hT.2.2 _ _ (zh_W_add (hT.2.1 y y1).2 p2)
    rw [hT.1 v' v v1 hvn v2] at v3
    refine ⟨y, y1, ?_, by omega, zh_W_D hx hT y1 hvn p2 (by omega)⟩
    rw [y2]
    exact (hx (s x) xS).2 p p1
/-- good rows by ways -/
theorem zh_gd_W (hx : zh_nx f P b A nx) (hT : zh_T f P b A n s c) {D : Nat} {T : Nat → Prop} (hTD : ∀ v, T v → c v = D) {x : Nat} (hxn : x < n) : zg_gd nx s c n D T x ↔ ∃ v, v < n ∧ T v ∧ c x ≤ D ∧ zh_W f P b A (s x) (D - c x) (s v) := by
  constructor
  · rintro ⟨v, hD, hv⟩
    obtain ⟨d1, d2, d3⟩ := zh_D_W hx hT hxn hD
    have := hTD v hv
    exact ⟨v, d3, hv, by omega, d1⟩
  · rintro ⟨v, v1, v2, v3, v4⟩
    exact ⟨v, zh_W_D hx hT hxn v1 v4 (by have := hTD v v2; omega), v2⟩
/-- who has lost a letter -/
def zh_mp (P t u : Nat) : Nat := ((List.range P).find? (fun p => decide (zg_d u p < zg_d t p))).getD 0
theorem zh_mp_ok {t q : Nat} (hS : zg_S f P t) (hE : zh_E f P b A t q) : zh_mp P t (zh_to f P t q) < P ∧ zg_m f P t q (zh_mp P t (zh_to f P t q)) = true := by
  obtain ⟨e1, -, e3, -⟩ := hE
  have ms := zg_m_self (f := f) (s := t) e1
  have iff : ∀ p, p < P → (zg_d (zh_to f P t q) p < zg_d t p ↔ zg_m f P t q p = true) := fun p hp => by
    unfold zh_to
    rw [zg_mv_d hp]
    cases z : zg_m f P t q p with
    | false => rw [zg_bt_0 z]; exact ⟨fun h => by omega, fun h => (by cases h)⟩
    | true => rw [zg_bt_1 z]; have := zg_m_pos hS e1 e3 z; exact ⟨fun _ => rfl, fun _ => by omega⟩
  unfold zh_mp
  cases h : (List.range P).find? (fun p => decide (zg_d (zh_to f P t q) p < zg_d t p)) with
  | none =>
    have := List.find?_eq_none.mp h q (List.mem_range.mpr e1)
    exact absurd (decide_eq_true ((iff q e1).mpr ms)) this
  | some p =>
    have h1 := List.find?_some h
    have h2 := List.mem_range.mp (List.mem_of_find?_eq_some h)
    rw [decide_eq_true_eq] at h1
    exact ⟨h2, (iff p h2).mp h1⟩
/-- one call, two callers -/
theorem zh_to_inj {t p q : Nat} (hS : zg_S f P t) (hp : zh_E f P b A t p) (e : zh_to f P t p = zh_to f P t q) : zg_n f t p = zg_n f t q := by
  obtain ⟨e1, -, e3, -⟩ := hp
  have ms := zg_m_self (f := f) (s := t) e1
  have ed := congrArg (fun s => zg_d s p) e
  try dsimp only at ed
  unfold zh_to at ed
  rw [zg_mv_d e1, zg_mv_d e1, zg_bt_1 ms] at ed
  cases z : zg_m f P t q p with
  | false => rw [zg_bt_0 z] at ed; omega
  | true => exact (zg_m_iff.mp z).2
/-- the calls of the way by parents; behind the last one 0 -/
def zh_wy (f : Nat → Nat) (P : Nat) (s ps c : Nat → Nat) (w j : Nat) : Nat :=
  if j < c w then zg_n f (s (zq_up ps (c w - j) w)) (zh_mp P (s (zq_up ps (c w - j) w)) (s (zq_up ps (c w - j - 1) w))) else 0
/-- children by rising calls -/
def zh_ord (f : Nat → Nat) (P b : Nat) (A : Nat → Bool) (nx : Nat → List Nat) : Prop :=
  ∀ t, zg_S f P t → ∀ x z p q : Nat, zh_E f P b A t p → zh_E f P b A t q → (nx t)[x]? = some (zh_to f P t p) → (nx t)[z]? = some (zh_to f P t q) → (zg_n f t p < zg_n f t q → x < z) ∧ (zg_n f t p = zg_n f t q → x = z)
/-- the way's step at j -/
theorem zh_wy_at (hx : zh_nx f P b A nx) (hB : zq_B (zg_st f P) nx s ps c n n 0) (hT : zh_T f P b A n s c) {w j : Nat} (hw : w < n) (hj : j < c w) :
    ∃ q, zh_E f P b A (s (zq_up ps (c w - j) w)) q ∧ s (zq_up ps (c w - j - 1) w) = zh_to f P (s (zq_up ps (c w - j) w)) q ∧ zh_wy f P s ps c w j = zg_n f (s (zq_up ps (c w - j) w)) q := by
  obtain ⟨u1, u2⟩ := zq_up_c hB (c w - j - 1) w hw (by omega)
  obtain ⟨v1, v2⟩ := zq_up_c hB (c w - j) w hw (by omega)
  have hp : zq_up ps (c w - j) w = ps (zq_up ps (c w - j - 1) w) := by
    have := zq_up_s (p := ps) (c w - j - 1) w
    rw [show c w - j - 1 + 1 = c w - j by omega] at this
    exact this
  have z0 : zq_up ps (c w - j - 1) w ≠ 0 := fun q => by rw [q, hB.1.2.2.1] at u2; omega
  obtain ⟨-, -, ⟨x, q3, -⟩, q5, -⟩ := hB.2.2.1 _ (by omega) u1
  rw [← hp] at q3 q5
  obtain ⟨q, q1, q2⟩ := zh_row_E hx hT v1 u1 (List.mem_of_getElem? q3) q5
  refine ⟨q, q1, q2, ?_⟩
  unfold zh_wy
  rw [if_pos hj, q2]
  exact (zg_m_iff.mp (zh_mp_ok (hT.2.1 _ v1).1 q1).2).2
/-- no good child is called by less than the way's -/
theorem zh_wy_least (hx : zh_nx f P b A nx) (ho : zh_ord f P b A nx) (hB : zq_B (zg_st f P) nx s ps c n n 0) (hT : zh_T f P b A n s c) {w j : Nat} (hw : w < n) (hj : j < c w) {W : Nat → Prop} (hW : ∀ v, v < w → ¬ W v) {p y v : Nat} (hE : zh_E f P b A (s (zq_up ps (c w - j) w)) p) (hy : y < n) (ey : s y = zh_to f P (s (zq_up ps (c w - j) w)) p) (cy : c y = j + 1) (hD : zq_D nx s c n (c w - j - 1) y v) (hv : W v) :
    zh_wy f P s ps c w j ≤ zg_n f (s (zq_up ps (c w - j) w)) p := by
  obtain ⟨q, q1, q2, q3⟩ := zh_wy_at hx hB hT hw hj
  rw [q3]
  obtain ⟨v1, v2⟩ := zq_up_c hB (c w - j) w hw (by omega)
  have uS := (hT.2.1 _ v1).1
  have e1 : c w - j - 1 + 1 = c w - j := by omega
  obtain ⟨x, hx1, hx2⟩ := List.getElem_of_mem ((hx _ uS).2 p hE)
  obtain ⟨z, hz1, hz2⟩ := List.getElem_of_mem ((hx _ uS).2 q q1)
  have ex : (nx (s (zq_up ps (c w - j) w)))[x]? = some (zh_to f P (s (zq_up ps (c w - j) w)) p) := by rw [List.getElem?_eq_getElem hx1, hx2]
  have ez : (nx (s (zq_up ps (c w - j) w)))[z]? = some (zh_to f P (s (zq_up ps (c w - j) w)) q) := by rw [List.getElem?_eq_getElem hz1, hz2]
  have key := zq_least' hB (W := W) hw hW (r := c w - j - 1) (by omega) (y := y) (v := v) (x := x) (z := z) hy (by rw [e1]; omega) (by rw [e1, ey]; exact ex) (by rw [e1, q2]; exact ez)
    (fun a d ha hd => by
      rw [e1, ey] at ha hd
      exact (ho _ uS a d p p hE hE ha hd).2 rfl)
    (fun a d ha hd => by
      rw [e1, q2] at ha hd
      exact (ho _ uS a d q q q1 q1 ha hd).2 rfl) hD hv
  by_cases lt : zg_n f (s (zq_up ps (c w - j) w)) p < zg_n f (s (zq_up ps (c w - j) w)) q
  · have := (ho _ uS x z p q hE q1 ex ez).1 lt
    omega
  · omega
end HW
/-- how many calls of each group's way are taken, as the least is taken each time -/
def zh_tk (wy : Nat → Nat → Nat) (G : Nat) : Nat → Nat → Nat
  | 0 => fun _ => 0
  | i + 1 => match zg_fb (fun g => decide (wy g (zh_tk wy G i g) ≠ 0)) (fun g => wy g (zh_tk wy G i g)) G with
    | none => zh_tk wy G i
    | some g => fun h => if h = g then zh_tk wy G i h + 1 else zh_tk wy G i h
def zh_nc (wy : Nat → Nat → Nat) (G i : Nat) : Nat := match zg_fb (fun g => decide (wy g (zh_tk wy G i g) ≠ 0)) (fun g => wy g (zh_tk wy G i g)) G with
  | none => 0
  | some g => wy g (zh_tk wy G i g)
