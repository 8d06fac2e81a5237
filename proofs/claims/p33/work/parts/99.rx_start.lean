/-! ===== the start: both sides alike ===== -/
set_option maxRecDepth 100000 in
theorem st_ns : (tk_h.1 0 0 = nI 2 ∧ tk_h.1 0 1 = nI 0 ∧ tk_h.1 0 2 = tk_h.1 271 2) ∧ (∀ p, p < 2 → tk_h.1 1 p = tk_h.1 271 (44 + p)) ∧ (∀ p, p < 2 → (tk_h.1 271 (58 + p) = 1 → tk_h.1 2 (14 + p) = nI p ∧ tk_h.1 3 (14 + p) = 7) ∧ (tk_h.1 271 (58 + p) ≠ 1 → tk_h.1 2 (14 + p) = 7 ∧ tk_h.1 3 (14 + p) = nI p)) ∧ (∀ p, p < 2 → tk_h.1 6 (14 + p) = tk_h.1 271 (65 + p)) ∧ (∀ p, p < 2 → tk_h.1 5 (14 + p) = 10000) ∧ (tk_h.1 11 0 = nI 0 ∧ tk_h.1 271 3 = nI 0) ∧ (tk_h.1 11 1 = tk_h.1 271 4 ∧ tk_h.1 11 2 = tk_h.1 271 5 ∧ tk_h.1 11 3 = tk_h.1 271 6) ∧ tk_h.1 271 7 = nI 0 ∧ tk_h.1 240 8 = nI 0 ∧ tk_h.1 240 9 = nI 0 ∧ tk_h.1 270 5 = nI 0 := by decide +kernel
set_option maxRecDepth 100000 in
theorem st_lt : (∀ p, p < 2 → tk_h.1 8 p = cI 2 (uf (lt tk_h 2 0) p) ∧ tk_h.1 9 p = eK ((lt tk_h 2 0).1 282 p) ∧ (lt tk_h 2 0).1 282 p = nI (100 + p)) ∧ tk_h.1 10 7 = 0 ∧ ∀ p, p < 2 → tk_h.1 10 p = (lt tk_h 2 0).1 284 p := by decide +kernel
set_option maxRecDepth 100000 in
theorem st_ks : (∀ p, p < 2 → tk_h.1 271 (44 + p) = tk_h.1 271 (58 + p) * tk_h.1 271 (65 + p)) ∧ (∀ p, p < 2 → tk_h.1 271 (65 + p) = 0 → tk_h.1 271 (58 + p) = 1) ∧ ∀ p, p < 2 → tk_h.1 271 (51 + p) ≠ 1 → tk_h.1 271 (65 + p) = 0 := by decide +kernel
theorem nz_0 {h : LH} (A : (h.1 0 0 = nI 2 ∧ h.1 0 1 = nI 0 ∧ h.1 0 2 = h.1 271 2) ∧ (∀ p, p < 2 → h.1 1 p = h.1 271 (44 + p)) ∧ (∀ p, p < 2 → (h.1 271 (58 + p) = 1 → h.1 2 (14 + p) = nI p ∧ h.1 3 (14 + p) = 7) ∧ (h.1 271 (58 + p) ≠ 1 → h.1 2 (14 + p) = 7 ∧ h.1 3 (14 + p) = nI p)) ∧ (∀ p, p < 2 → h.1 6 (14 + p) = h.1 271 (65 + p)) ∧ (∀ p, p < 2 → h.1 5 (14 + p) = 10000) ∧ (h.1 11 0 = nI 0 ∧ h.1 271 3 = nI 0) ∧ (h.1 11 1 = h.1 271 4 ∧ h.1 11 2 = h.1 271 5 ∧ h.1 11 3 = h.1 271 6) ∧ h.1 271 7 = nI 0 ∧ h.1 240 8 = nI 0 ∧ h.1 240 9 = nI 0 ∧ h.1 270 5 = nI 0) (B : (∀ p, p < 2 → h.1 8 p = cI 2 (uf (lt h 2 0) p) ∧ h.1 9 p = eK ((lt h 2 0).1 282 p) ∧ (lt h 2 0).1 282 p = nI (100 + p)) ∧ h.1 10 7 = 0 ∧ ∀ p, p < 2 → h.1 10 p = (lt h 2 0).1 284 p) (K : (∀ p, p < 2 → h.1 271 (44 + p) = h.1 271 (58 + p) * h.1 271 (65 + p)) ∧ (∀ p, p < 2 → h.1 271 (65 + p) = 0 → h.1 271 (58 + p) = 1) ∧ ∀ p, p < 2 → h.1 271 (51 + p) ≠ 1 → h.1 271 (65 + p) = 0) (C : CI h 0) (R : RI h 0) (r0 : h.1 271 0 = nI 2) (r1 : h.1 271 1 = nI 0) (E0 : ∀ j, j < 3 → h.1 273 j = 0) : NZ h 0 := by
  obtain ⟨⟨a1, a2, a3⟩, a4, a5, a6, a7, b1, b2, b3, c1, c2, c3⟩ := A
  obtain ⟨n, k, m, hm, H⟩ := C.1.net
  have m0 : m = 0 := by omega
  subst m0
  have en : n = 2 := (nI_eq (by have := H.1.2.1; omega) (by omega)).mp (H.1.2.2.1.symm.trans a1)
  have ek : k = 0 := (nI_eq (by have := H.1.2.1; omega) (by omega)).mp (H.1.2.2.2.1.symm.trans a2)
  subst en ek
  obtain ⟨n2, k2, G⟩ := R.1
  have en : n2 = 2 := (nI_eq (by have := G.1.1; omega) (by omega)).mp (G.1.2.1.symm.trans r0)
  have ek : k2 = 0 := (nI_eq (by have := G.1.1; omega) (by omega)).mp (G.1.2.2.1.symm.trans r1)
  subst en ek
  obtain ⟨l1, l2, l3⟩ := B
  refine ⟨⟨2, 0, 0, by omega, H, G, ⟨⟨a1, a2, a3⟩, a4, ⟨fun a ha => absurd ha (by omega), a5⟩, ⟨fun a ha => absurd ha (by omega), a6⟩, ⟨fun a ha => absurd ha (by omega), a7⟩, fun a ha => absurd ha (by omega)⟩, ⟨lt h 2 0, G.lt, lt_pr G.1, fun i _ => by rw [lt_fl.r], fun p hp => ⟨(l1 p hp).1, (l1 p hp).2.1⟩, ⟨l2, l3⟩, fun p q id hp E => ?_, fun p hp => ?_, fun p hp => ⟨fun b hb => absurd hb (by omega), fun _ z => ?_⟩, fun p hp z => ?_⟩, ⟨b1, b2, b3, fun j _ hj => absurd hj (by omega)⟩⟩, ⟨0, 0, by omega, by omega, c1, c2, c3, fun i hi => absurd hi (by omega)⟩, fun j hj hs => absurd (E0 j hj) hs⟩
  · rcases E with ⟨-, z2, -⟩ | ⟨-, c, hc, -⟩
    · exact ⟨p, hp, by rw [(l1 p hp).2.2, z2]⟩
    · exact absurd hc (by omega)
  · have e : (lt h 2 0).1 271 = h.1 271 := lt_fl.r
    rw [e]
    unfold cq dw fz
    rw [e, Int32.zero_add]
    exact K.1 p hp
  · have e : (lt h 2 0).1 271 = h.1 271 := lt_fl.r
    rw [e] at z ⊢
    exact K.2.1 p hp z
  · have e : (lt h 2 0).1 271 = h.1 271 := lt_fl.r
    rw [e] at z ⊢
    exact K.2.2 p hp z
theorem st_nz : NZ tk_h 0 := nz_0 st_ns st_lt st_ks st_ci st_ri st_r.1 st_r.2.1 st_er.2.2
theorem st_iz : IZ tk_h 0 := ⟨st_nz, st_ix⟩
