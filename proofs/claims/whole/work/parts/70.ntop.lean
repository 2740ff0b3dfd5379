/-! ===== new names: the first of a set by a key ===== -/
def zn_top (κ : Nat → Nat) (L : Nat) (S : Nat → Prop) (xs : List Nat) : Prop := xs.Pairwise (fun a b => κ a < κ b) ∧ xs.length ≤ L ∧ (∀ x ∈ xs, S x) ∧ ∀ s, S s → s ∈ xs ∨ (xs.length = L ∧ ∀ x ∈ xs, κ x < κ s)
def zn_ins (κ : Nat → Nat) (s : Nat) : List Nat → List Nat
  | [] => [s]
  | x :: xs => if κ x ≤ κ s then x :: zn_ins κ s xs else s :: x :: xs
def zn_add (κ : Nat → Nat) (L s : Nat) (xs : List Nat) : List Nat := (zn_ins κ s xs).take L
section ZN
variable {κ : Nat → Nat} {L : Nat} {S T : Nat → Prop}
theorem zn_ins_mem {s y : Nat} : ∀ xs : List Nat, y ∈ zn_ins κ s xs ↔ y = s ∨ y ∈ xs
  | [] => by rw [zn_ins]; simp
  | x :: xs => by
    rw [zn_ins]
    split
    · rw [List.mem_cons, zn_ins_mem xs, List.mem_cons]
      constructor
      · rintro (h | h | h)
        · exact Or.inr (Or.inl h)
        · exact Or.inl h
        · exact Or.inr (Or.inr h)
      · rintro (h | h | h)
        · exact Or.inr (Or.inl h)
        · exact Or.inl h
        · exact Or.inr (Or.inr h)
    · rw [List.mem_cons]
theorem zn_ins_len {s : Nat} : ∀ xs : List Nat, (zn_ins κ s xs).length = xs.length + 1
  | [] => rfl
  | x :: xs => by
    rw [zn_ins]
    split
    · rw [List.length_cons, zn_ins_len xs, List.length_cons]
    · rfl
theorem zn_ins_srt {s : Nat} : ∀ xs : List Nat, xs.Pairwise (fun a b => κ a < κ b) → (∀ x ∈ xs, κ x ≠ κ s) → (zn_ins κ s xs).Pairwise (fun a b => κ a < κ b)
  | [], _, _ => by rw [zn_ins]; exact List.pairwise_singleton _ _
  | x :: xs, hs, hn => by
    rw [List.pairwise_cons] at hs
    rw [zn_ins]
    split
    · rename_i h
      have hx := hn x List.mem_cons_self
      rw [List.pairwise_cons]
      refine ⟨fun y hy => ?_, zn_ins_srt xs hs.2 (fun y hy => hn y (List.mem_cons_of_mem _ hy))⟩
      rcases (zn_ins_mem xs).mp hy with rfl | hy
      · omega
      · exact hs.1 y hy
    · rename_i h
      rw [List.pairwise_cons]
      refine ⟨fun y hy => ?_, List.pairwise_cons.mpr hs⟩
      rcases List.mem_cons.mp hy with rfl | hy
      · omega
      · have := hs.1 y hy; omega
/-- of a rising list -/
theorem zn_top_take : ∀ (L : Nat) (ys : List Nat), ys.Pairwise (fun a b => κ a < κ b) → zn_top κ L (fun e => e ∈ ys) (ys.take L)
  | 0, ys, h => ⟨by rw [List.take_zero]; exact List.Pairwise.nil, by rw [List.take_zero]; exact Nat.le_refl _, fun x hx => (by rw [List.take_zero] at hx; cases hx), fun s _ => Or.inr ⟨by rw [List.take_zero]; rfl, fun x hx => (by rw [List.take_zero] at hx; cases hx)⟩⟩
  | L + 1, [], h => ⟨List.Pairwise.nil, by simp, fun x hx => hx, fun s hs => Or.inl hs⟩
  | L + 1, y :: ys, h => by
    rw [List.pairwise_cons] at h
    obtain ⟨a1, a2, a3, a4⟩ := zn_top_take L ys h.2
    rw [List.take_succ_cons]
    refine ⟨List.pairwise_cons.mpr ⟨fun z hz => h.1 z (a3 z hz), a1⟩, by rw [List.length_cons]; omega, fun x hx => ?_, fun s hs => ?_⟩
    · rcases List.mem_cons.mp hx with rfl | hx
      · exact List.mem_cons_self
      · exact List.mem_cons_of_mem _ (a3 x hx)
    · rcases List.mem_cons.mp hs with rfl | hs'
      · exact Or.inl List.mem_cons_self
      · rcases a4 s hs' with b | ⟨b, c⟩
        · exact Or.inl (List.mem_cons_of_mem _ b)
        · refine Or.inr ⟨by rw [List.length_cons, b], fun x hx => ?_⟩
          rcases List.mem_cons.mp hx with e | hx'
          · rw [e]; exact h.1 s hs'
          · exact c x hx'
theorem zn_top_add {xs : List Nat} {s : Nat} (h : zn_top κ L S xs) (hn : ∀ x ∈ xs, κ x ≠ κ s) : zn_top κ L (fun e => S e ∨ e = s) (zn_add κ L s xs) := by
  obtain ⟨h1, h2, h3, h4⟩ := h
  have hs := zn_ins_srt xs h1 hn
  obtain ⟨a1, a2, a3, a4⟩ := zn_top_take (κ := κ) L _ hs
  unfold zn_add
  refine ⟨a1, a2, fun x hx => ?_, fun t ht => ?_⟩
  · rcases (zn_ins_mem xs).mp (a3 x hx) with e | e
    · exact Or.inr e
    · exact Or.inl (h3 x e)
  · rcases ht with ht | rfl
    · rcases h4 t ht with b | ⟨b, c⟩
      · exact a4 t ((zn_ins_mem xs).mpr (Or.inr b))
      · refine Or.inr ⟨by rw [List.length_take, zn_ins_len]; omega, fun z hz => ?_⟩
        rcases (zn_ins_mem xs).mp (a3 z hz) with rfl | e
        · -- one of xs fell out behind it
          by_cases hall : ∀ x ∈ xs, x ∈ (zn_ins κ z xs).take L
          · have nd : (z :: xs).Nodup := by
              rw [List.nodup_cons]
              refine ⟨fun q => hn z q rfl, ?_⟩
              exact List.Pairwise.imp (fun q e => by rw [e] at q; exact Nat.lt_irrefl _ q) h1
            have sub : (z :: xs) ⊆ (zn_ins κ z xs).take L := fun y hy => by
              rcases List.mem_cons.mp hy with rfl | hy
              · exact hz
              · exact hall y hy
            have := List.Nodup.length_le_of_subset nd sub
            rw [List.length_cons] at this
            omega
          · obtain ⟨y, hy⟩ := Classical.not_forall.mp hall
            obtain ⟨hy1, hy2⟩ := Classical.not_imp.mp hy
            rcases a4 y ((zn_ins_mem xs).mpr (Or.inr hy1)) with q | ⟨_, q⟩
            · exact absurd q hy2
            · exact Nat.lt_trans (q z hz) (c y hy1)
        · exact c z e
    · exact a4 t ((zn_ins_mem xs).mpr (Or.inl rfl))
theorem zn_top_iff {xs : List Nat} (h : zn_top κ L S xs) (hst : ∀ e, S e ↔ T e) : zn_top κ L T xs :=
  ⟨h.1, h.2.1, fun x hx => (hst x).mp (h.2.2.1 x hx), fun s hs => h.2.2.2 s ((hst s).mpr hs)⟩
/-- rising lists of the same are the same -/
theorem zn_srt_eq : ∀ (xs ys : List Nat), xs.Pairwise (fun a b => κ a < κ b) → ys.Pairwise (fun a b => κ a < κ b) → (∀ e, e ∈ xs ↔ e ∈ ys) → xs = ys
  | [], [], _, _, _ => rfl
  | [], y :: ys, _, _, h => by have := (h y).mpr List.mem_cons_self; cases this
  | x :: xs, [], _, _, h => by have := (h x).mp List.mem_cons_self; cases this
  | x :: xs, y :: ys, hx, hy, h => by
    rw [List.pairwise_cons] at hx hy
    have e : x = y := by
      rcases List.mem_cons.mp ((h x).mp List.mem_cons_self) with e | e
      · exact e
      · rcases List.mem_cons.mp ((h y).mpr List.mem_cons_self) with e2 | e2
        · exact e2.symm
        · have := hx.1 y e2
          have := hy.1 x e
          omega
    subst e
    rw [zn_srt_eq xs ys hx.2 hy.2 (fun e => ?_)]
    constructor
    · intro q
      rcases List.mem_cons.mp ((h e).mp (List.mem_cons_of_mem _ q)) with z | z
      · subst z; have := hx.1 e q; omega
      · exact z
    · intro q
      rcases List.mem_cons.mp ((h e).mpr (List.mem_cons_of_mem _ q)) with z | z
      · subst z; have := hy.1 e q; omega
      · exact z
theorem zn_nodup {xs : List Nat} (h : xs.Pairwise (fun a b => κ a < κ b)) : xs.Nodup := List.Pairwise.imp (fun q e => by rw [e] at q; exact Nat.lt_irrefl _ q) h
theorem zn_top_uniq {xs ys : List Nat} (hx : zn_top κ L S xs) (hy : zn_top κ L S ys) : xs = ys := by
  have half : ∀ xs ys, zn_top κ L S xs → zn_top κ L S ys → ∀ e, e ∈ xs → e ∈ ys := by
    intro xs ys hx hy e he
    rcases hy.2.2.2 e (hx.2.2.1 e he) with q | ⟨q1, q2⟩
    · exact q
    · have sub : (e :: ys) ⊆ xs := fun y hy' => by
        rcases List.mem_cons.mp hy' with rfl | hy'
        · exact he
        · rcases hx.2.2.2 y (hy.2.2.1 y hy') with z | ⟨z1, z2⟩
          · exact z
          · have := z2 e he
            have := q2 y hy'
            omega
      have nd : (e :: ys).Nodup := List.nodup_cons.mpr ⟨fun q => by have := q2 e q; omega, zn_nodup hy.1⟩
      have := List.Nodup.length_le_of_subset nd sub
      rw [List.length_cons] at this
      have := hx.2.1
      omega
  exact zn_srt_eq xs ys hx.1 hy.1 (fun e => ⟨half xs ys hx hy e, half ys xs hy hx e⟩)
/-- all of another first list are added: of both sets; the other list is as long, or all of its set -/
def zn_all (κ : Nat → Nat) (L : Nat) (xs es : List Nat) : List Nat := es.foldl (fun xs e => zn_add κ L e xs) xs
theorem zn_top_all {xs : List Nat} (h : zn_top κ L S xs) : ∀ (es : List Nat), es.Pairwise (fun a b => κ a < κ b) → (∀ e ∈ es, ¬ S e) → (∀ e ∈ es, ∀ s, S s → κ s ≠ κ e) → zn_top κ L (fun e => S e ∨ e ∈ es) (zn_all κ L xs es) := by
  intro es
  induction es generalizing xs S with
  | nil => intro _ _ _; exact zn_top_iff h (fun e => ⟨Or.inl, fun q => q.elim id (fun z => by cases z)⟩)
  | cons e es ih =>
    intro hs hn hk
    rw [List.pairwise_cons] at hs
    have h1 := zn_top_add h (s := e) (fun x hx => hk e List.mem_cons_self x (h.2.2.1 x hx))
    have h2 := ih h1 hs.2 (fun z hz q => by
      rcases q with q | q
      · exact hn z (List.mem_cons_of_mem _ hz) q
      · have := hs.1 z hz; rw [q] at this; exact Nat.lt_irrefl _ this) (fun z hz s q => by
      rcases q with q | q
      · exact hk z (List.mem_cons_of_mem _ hz) s q
      · have := hs.1 z hz; rw [q]; exact Nat.ne_of_lt this)
    refine zn_top_iff h2 (fun t => ?_)
    constructor
    · rintro ((a | a) | a)
      · exact Or.inl a
      · exact Or.inr (by rw [a]; exact List.mem_cons_self)
      · exact Or.inr (List.mem_cons_of_mem _ a)
    · rintro (a | a)
      · exact Or.inl (Or.inl a)
      · rcases List.mem_cons.mp a with a | a
        · exact Or.inl (Or.inr a)
        · exact Or.inr a
/-- the rest of the other set can't come among the first -/
theorem zn_top_more {xs es : List Nat} {C : Nat → Prop} (h : zn_top κ L (fun e => S e ∨ e ∈ es) xs) (hC : zn_top κ L C es) (hd : ∀ e, C e → ∀ s, S s → κ s ≠ κ e) : zn_top κ L (fun e => S e ∨ C e) xs := by
  obtain ⟨h1, h2, h3, h4⟩ := h
  refine ⟨h1, h2, fun x hx => (h3 x hx).imp id (fun q => hC.2.2.1 x q), fun s hs => ?_⟩
  rcases hs with hs | hs
  · exact h4 s (Or.inl hs)
  · rcases hC.2.2.2 s hs with q | ⟨q1, q2⟩
    · exact h4 s (Or.inr q)
    · -- L of es are below s: so are all of xs, and there are L
      refine Or.inr ?_
      by_cases hin : ∀ e ∈ es, e ∈ xs
      · have hle := List.Nodup.length_le_of_subset (zn_nodup hC.1) hin
        refine ⟨by omega, fun x hx => ?_⟩
        by_cases hxe : x ∈ es
        · exact q2 x hxe
        · have nd : (x :: es).Nodup := List.nodup_cons.mpr ⟨hxe, zn_nodup hC.1⟩
          have := List.Nodup.length_le_of_subset nd (fun y hy => by
            rcases List.mem_cons.mp hy with rfl | hy
            · exact hx
            · exact hin y hy)
          rw [List.length_cons] at this
          omega
      · obtain ⟨e, he⟩ := Classical.not_forall.mp hin
        obtain ⟨he1, he2⟩ := Classical.not_imp.mp he
        rcases h4 e (Or.inr he1) with z | ⟨z1, z2⟩
        · exact absurd z he2
        · exact ⟨z1, fun x hx => Nat.lt_trans (z2 x hx) (q2 e he1)⟩
end ZN
