/-! ===== where the law's loop begins ===== -/
section ZLF
variable (N : Nat) (f : Nat → Int32)
theorem zl_dig0 : zy_dig 0 = true := by unfold zy_dig; rfl
theorem zl_is0 : zy_is 0 = true := by
  have h := zy_is_nI (c := 0) (by decide)
  rw [nI_0] at h
  rw [h, zl_dig0]
  decide
set_option maxRecDepth 100000 in
theorem zl_V0 : zi_V 0 (zl_M3 N f).1 (zl_M3 N f).2.1 (zl_M3 N f).2.2 := by
  have hY := zl_M3_lay N f
  have g := fun (a k : Nat) (v : Int32) => zl_M3_in (N := N) (f := f) a k v
  have z9 : ∀ p, p < 10 → (zl_M3 N f).1 9 p = 0 := fun p hp => zl_M3_row 9 10 0 (by decide +kernel) hp
  have z10 : ∀ p, p < 10 → (zl_M3 N f).1 10 p = 0 := fun p hp => zl_M3_row 10 10 0 (by decide +kernel) hp
  have z11 : ∀ p, p < 6 → (zl_M3 N f).1 11 p = nI 1 := fun p hp => zl_M3_row 11 6 (nI 1) (by decide +kernel) hp
  have z137 : ∀ p, p < 6 → (zl_M3 N f).1 137 p = nI 1 := fun p hp => zl_M3_row 137 6 (nI 1) (by decide +kernel) hp
  have z131 : ∀ p, p < 3 → (zl_M3 N f).1 131 p = 0 := fun p hp => zl_M3_row 131 3 0 (by decide +kernel) hp
  have z157 : ∀ p, p < 3 → (zl_M3 N f).1 157 p = 0 := fun p hp => zl_M3_row 157 3 0 (by decide +kernel) hp
  have z78 : ∀ p, p < 6 → (zl_M3 N f).1 78 p = 0 := fun p hp => zl_M3_row 78 6 0 (by decide +kernel) hp
  have z61 : ∀ p, p < 10 → (zl_M3 N f).1 61 p = nI 0 := fun p hp => zl_M3_row 61 10 (nI 0) (by decide +kernel) hp
  have hT : zc_T (zl_M3 N f).1 0 := ⟨by omega, g 4 1 (nI 0) (by decide +kernel), g 132 14 (nI 0) (by decide +kernel), fun j hj => by omega⟩
  have hC : zc_C (zl_M3 N f).1 0 0 10 0 [] := ⟨⟨by omega, g 8 7 (nI 0) (by decide +kernel), g 132 3 (nI 0) (by decide +kernel)⟩, fun p hp => by rw [z9 p hp]; exact zl_is0, fun p hp => by omega, fun p _ hp => ⟨z9 p hp, z10 p hp⟩,
    ⟨by decide, g 8 8 (nI 0) (by decide +kernel)⟩, ⟨by omega, by omega, g 8 9 (nI 10) (by decide +kernel), g 132 8 (nI 10) (by decide +kernel)⟩, ⟨by omega, g 8 6 (nI 0) (by decide +kernel), Nat.zero_le _, g 8 5 (nI 0) (by decide +kernel), g 132 10 (nI 0) (by decide +kernel)⟩, fun t q h => by simp at h, trivial⟩
  have hP : zc_P (zl_M3 N f).1 := fun j hj => ⟨by rw [z11 j hj, z137 j hj], 1, by omega, by omega, z11 j hj⟩
  have hN : zc_N (zl_M3 N f).1 := by
    show (zl_M3 N f).1 132 9 = (zl_M3 N f).1 8 10
    rw [g 132 9 1 (by decide +kernel), g 8 10 1 (by decide +kernel)]
  have hR : zc_R (zl_M3 N f).1 [] := ⟨Nat.zero_le _, g 6 1 (nI 0) (by decide +kernel), g 132 1 (nI 0) (by decide +kernel), fun j hj => by simp at hj⟩
  have hK : zc_K (zl_M3 N f).1 0 := fun i hi => Or.inl ⟨z131 i hi, z157 i hi⟩
  have hL : zc_L (zl_M3 N f).1 0 3 := ⟨⟨by omega, g 117 2 (nI 0) (by decide +kernel), g 132 37 (nI 0) (by decide +kernel)⟩, ⟨by omega, by omega, g 117 3 (nI 3) (by decide +kernel), g 132 36 (nI 3) (by decide +kernel)⟩, fun t ht => by omega⟩
  have e1 : (zl_M3 N f).1 1 = (zl_M0 N f).1 1 := zl_M3_low (by decide)
  have e2 : (zl_M3 N f).1 2 = (zl_M0 N f).1 2 := zl_M3_low (by decide)
  have hS : zc_S (zl_M3 N f).1 := fun j hj => ⟨by rw [e1]; rfl, by rw [e2]; rfl, z78 j hj⟩
  have lk : ∀ i kd ln, zb_lk i zb_A3 = some (kd, ln) → (zl_M3 N f).2.2.2.1 i = kd ∧ (zl_M3 N f).2.2.2.2.1 i = ln := fun i kd ln h => ((zl_M3_P N f).2.2.1 i kd ln h).2.2
  have rf : ∀ i k j, zb_rf i k zb_A3 = some j → (zl_M3 N f).2.2.1 i k = some j := (zl_M3_P N f).2.2.2.1
  have nn : (zl_M3 N f).2.2.2.2.2.1 = 160 := zl_M3_n N f
  have ss : (zl_M3 N f).2.2.2.2.2.2 = 184937 := zl_M3_s N f
  have ce : ∀ q kd, 71 ≤ q → q ≤ 75 → zb_lk q zb_A3 = some (kd, 0) → zs_ce (zl_M3 N f).2.2 q kd 0 := fun q kd h1 h2 h => ⟨Or.inl ⟨h1, h2⟩, by show q < (zl_M3 N f).2.2.2.2.2.1; omega, (lk q kd 0 h).1, (lk q kd 0 h).2⟩
  have hs : zs_S1 (zl_M3 N f).1 (zl_M3 N f).2.1 (zl_M3 N f).2.2 (fun _ => 0) 184937 0 := by
    refine ⟨0, fun _ => 0, 0, fun _ => 0, 0, fun k => 66 + k, 0, 0, 0, 0, ⟨⟨by omega, fun p _ => ⟨(by decide : 0 < 5764801), zl_dig0⟩, fun _ _ _ => rfl⟩, ⟨by omega, fun i hi => by omega, fun i k hi => by omega, fun p _ h => absurd rfl h, fun i k h1 h2 => by omega⟩, ⟨by omega, rfl, rfl, fun g hg => by omega, fun g i hg => by omega, fun g hg => by omega⟩, ⟨g 23 7 (nI 0) (by decide +kernel), fun i hi => by omega⟩, fun i hi => by omega, ⟨g 23 8 (nI 0) (by decide +kernel), fun q hq => ?_⟩, g 23 9 (nI 0) (by decide +kernel), by omega, fun i hi => by omega⟩, ⟨z61, fun _ _ => rfl⟩, ⟨⟨fun k h5 h9 => ?_, ⟨ce 71 21 (by omega) (by omega) (by decide +kernel), ce 72 20 (by omega) (by omega) (by decide +kernel), ce 73 22 (by omega) (by omega) (by decide +kernel), ce 74 22 (by omega) (by omega) (by decide +kernel), ce 75 20 (by omega) (by omega) (by decide +kernel)⟩, by decide, by decide, by omega, by omega⟩, g 22 11 (nI 0) (by decide +kernel), g 22 12 (nI 0) (by decide +kernel), fun a ha => by omega⟩, ⟨by omega, 0, 0, ss, Or.inl (by omega), by omega, Or.inl rfl⟩, Or.inl (g 22 13 0 (by decide +kernel))⟩
    · rw [show q = 0 by omega]
      exact g 60 0 (nI 0) (by decide +kernel)
    · rcases (by omega : k = 5 ∨ k = 6 ∨ k = 7 ∨ k = 8 ∨ k = 9) with rfl | rfl | rfl | rfl | rfl
      · exact rf 22 5 71 (by decide +kernel)
      · exact rf 22 6 72 (by decide +kernel)
      · exact rf 22 7 73 (by decide +kernel)
      · exact rf 22 8 74 (by decide +kernel)
      · exact rf 22 9 75 (by decide +kernel)
  exact zi_mk hY hT hC hK hP hN hR hL hS hs (by omega) (by rw [nn]; omega)
end ZLF
