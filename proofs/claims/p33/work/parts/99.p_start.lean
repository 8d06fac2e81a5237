/-! ===== what holds at the start ===== -/
set_option maxRecDepth 100000 in
theorem st_net : ∀ r, r < 16 → tf_K (15 * r) = 0 ∧ (tk_h.1 (15 * r) 0).toNatClampNeg ≤ 7 ∧ (tk_h.1 (15 * r) 1).toNatClampNeg ≤ 14 ∧ tk_h.1 (15 * r) 0 = nI (tk_h.1 (15 * r) 0).toNatClampNeg ∧ tk_h.1 (15 * r) 1 = nI (tk_h.1 (15 * r) 1).toNatClampNeg ∧ (∀ p, p < 7 → ¬ (tk_h.1 (15 * r + 8) p < 0 ∨ 8 ≤ (tk_h.1 (15 * r + 8) p).toNatClampNeg)) ∧ (∀ p, p < 7 → ¬ (tk_h.1 (15 * r + 9) p < 0 ∨ 21 ≤ (tk_h.1 (15 * r + 9) p).toNatClampNeg)) ∧ (∀ a, a < 14 → ¬ (tk_h.1 (15 * r + 2) a < 0 ∨ 7 ≤ (tk_h.1 (15 * r + 2) a).toNatClampNeg)) ∧ (∀ a, a < 14 → ¬ (tk_h.1 (15 * r + 3) a < 0 ∨ 7 ≤ (tk_h.1 (15 * r + 3) a).toNatClampNeg)) ∧ tk_h.1 (15 * r + 11) 0 = nI 0 ∧ (tk_h.1 (15 * r + 11) 3 + 1).toNatClampNeg ≤ 14 ∧ tk_h.1 (15 * r + 11) 3 + 1 = nI (tk_h.1 (15 * r + 11) 3 + 1).toNatClampNeg := by decide +kernel
set_option maxRecDepth 100000 in
theorem st_ro : tk_h.1 241 2 = nI (tk_h.1 241 2).toNatClampNeg ∧ (tk_h.1 241 2).toNatClampNeg ≤ 8 ∧ (∀ i, i < 8 → ¬ (tk_h.1 242 i < 0 ∨ 21 ≤ (tk_h.1 242 i).toNatClampNeg)) ∧ ¬ (tk_h.1 240 8 < 0 ∨ 11 ≤ (tk_h.1 240 8).toNatClampNeg) ∧ ¬ (tk_h.1 240 9 < 0 ∨ 11 ≤ (tk_h.1 240 9).toNatClampNeg) := by decide +kernel
set_option maxRecDepth 100000 in
theorem st_pg : ∀ i, i < 4 → (∀ j, j < 400 → tk_h.1 (251 + 2 * i + 1) j = 0) ∧ tk_h.1 (251 + 2 * i) 1 = nI 0 := by decide +kernel
theorem st_ci : CI tk_h 0 := by
  refine ⟨⟨fun r hr => ?_, ⟨_, st_ro.1, st_ro.2.1, st_ro.2.2.1⟩, st_ro.2.2.2.1, st_ro.2.2.2.2⟩, fun i hi => ⟨fun j hj => ?_, 0, by omega, (st_pg i hi).2⟩⟩
  · obtain ⟨h1, h2, h3, h4, h5, h6, h7, h8, h9, h10, h11, h12⟩ := st_net r hr
    exact ⟨_, _, 0, Nat.le_refl _, ⟨h1, ⟨Nat.zero_le _, h2, h3⟩, h4, h5, h6, h7, h8, h9⟩, h10, _, h11, h12⟩
  · rw [(st_pg i hi).1 j hj]
    decide
set_option maxRecDepth 100000 in
theorem st_r : tk_h.1 271 0 = nI 2 ∧ tk_h.1 271 1 = nI 0 ∧ (∀ p, p < 2 → tk_h.1 271 (51 + p) = 1) ∧ (tk_h.1 271 6 + 1).toNatClampNeg ≤ 14 ∧ tk_h.1 271 6 + 1 = nI (tk_h.1 271 6 + 1).toNatClampNeg ∧ (∀ p, p < 2 → (tk_h.1 271 (44 + p) + 99).toNatClampNeg ≤ 198 ∧ tk_h.1 271 (44 + p) + 99 = nI (tk_h.1 271 (44 + p) + 99).toNatClampNeg) ∧ (∀ p, p < 2 → (tk_h.1 271 (65 + p)).toNatClampNeg ≤ 2000 ∧ tk_h.1 271 (65 + p) = nI (tk_h.1 271 (65 + p)).toNatClampNeg) ∧ (tk_h.1 271 7).toNatClampNeg ≤ 12 ∧ tk_h.1 271 7 = nI (tk_h.1 271 7).toNatClampNeg ∧ tk_h.1 270 5 = nI 0 ∧ (∀ j, j < 3 → tk_h.1 273 j = 0) ∧ tk_h.1 271 170 = nI 0 ∧ (∀ i, i < 4 → ¬ (tk_h.1 275 i < 0 ∨ 100 ≤ (tk_h.1 275 i).toNatClampNeg)) := by decide +kernel
set_option maxRecDepth 100000 in
theorem st_w : ∀ p, p < 2 → tk_h.1 271 (58 + p) = 1 ∨ tk_h.1 271 (58 + p) = -1 := by decide +kernel
theorem st_ri : RI tk_h 0 := by
  obtain ⟨h1, h2, h3, h4, h5, h6, h7, h8, h9, h10, h11, h12, h13⟩ := st_r
  refine ⟨⟨2, 0, ⟨⟨by omega, by omega, by omega⟩, h1, h2, fun a ha => absurd ha (by omega)⟩, fun S _ hp => ?_, ⟨_, h4, h5⟩, fun a ha => absurd ha (by omega), ⟨fun a ha => absurd ha (by omega), fun a ha => absurd ha (by omega), fun a ha => absurd ha (by omega), fun p hp => ⟨_, h6 p hp⟩⟩, fun p hp => ⟨_, by have := (h7 p hp).1; omega, (h7 p hp).2, st_w p hp⟩, ⟨_, h8, h9⟩⟩, ⟨0, by omega, h10, fun i hi => absurd hi (by omega)⟩, fun j hj hs => absurd (h11 j hj) hs, ⟨0, by omega, h12⟩, h13⟩
  obtain ⟨p, hp, e⟩ := hp
  exact Or.inl ⟨p, hp, e, h3 p hp⟩
theorem st_iv : IV tk_h 0 := ⟨st_ci, st_ri⟩
