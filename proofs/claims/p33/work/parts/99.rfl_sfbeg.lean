/-! ===== a begin gives a strongly feasible tree ===== -/
section VKS
variable {g h : LH} {n k M : Nat}
theorem bp_way : ∀ (f p : Nat) (h : LH), p + f ≤ 7 → (∀ q, q < p → h.1 271 (65 + q) = 0 → h.1 271 (58 + q) = 1) → ∀ q, q < p + f → (bp k f p h).1 271 (65 + q) = 0 → (bp k f p h).1 271 (58 + q) = 1
  | 0, p, h, hp, ih => ih
  | f + 1, p, h, hp, ih => by
    rw [bp]
    obtain ⟨-, -, s⟩ := bp1_lo (g := h) (k := k) (p := p)
    have e58 : (bp1 h k p).1 271 (58 + p) = (if lf h p k 0 (h.1 271 (44 + p)) < 0 then -1 else 1) := by unfold bp1; rw [w1_at (by omega), w1_eq]
    have e65 : (bp1 h k p).1 271 (65 + p) = (if lf h p k 0 (h.1 271 (44 + p)) < 0 then -lf h p k 0 (h.1 271 (44 + p)) else lf h p k 0 (h.1 271 (44 + p))) := by unfold bp1; rw [w1_eq]
    generalize bp1 h k p = h2 at *
    have := bp_way f (p + 1) h2 (by omega) (fun q hq z => ?_)
    · intro q hq
      exact this q (by omega)
    · by_cases c : q = p
      · rw [c] at z ⊢
        rw [e58]
        rw [e65] at z
        by_cases c2 : lf h p k 0 (h.1 271 (44 + p)) < 0
        · rw [if_pos c2] at z
          exfalso
          have z2 : lf h p k 0 (h.1 271 (44 + p)) = 0 := by grind
          rw [z2] at c2
          exact absurd c2 (by decide)
        · rw [if_neg c2]
      · rw [s _ (by omega) (by omega) (by omega)] at z ⊢
        exact ih q (by omega) z
theorem sf_beg (B : BI g n k) (w : Int32) : SFT (lt (bgn g n k w) n k) n k := by
  have hn := B.1.1
  have GB := (bgn_ok (M := 0) (w := w) B).1
  have L := GB.lt
  have e271 : (lt (bgn g n k w) n k).1 271 = (bgn g n k w).1 271 := lt_fl.r
  have F1 := ba_fb (w := w) k 0 g (by omega)
  have B1 : BI (ba w k 0 g) n k := B.fb F1
  have E1 := ba_ef (w := w) k 0 g (by omega) (fun b hb => B.2.2.2.2.1 b (by omega)) (fun b hb => absurd hb (by omega))
  rw [Nat.zero_add] at E1
  have fl : ∀ a, a < k → ∃ v, v < 100 ∧ rm (ba w k 0 g) a 4 = nI v := by
    intro a ha
    rcases E1 a ha with ⟨-, z⟩ | ⟨-, z⟩
    · exact ⟨0, by omega, z⟩
    · rw [z]
      exact vi_nI (B1.2.2.2.2.1 a ha)
  obtain ⟨k1, k2, k3, k4⟩ := bp_ok (k := k) n 0 (ba w k 0 g) (by omega) hn.2.2 fl (fun q hq => B1.2.2.2.2.2.2 q (by omega)) (fun q hq => absurd hq (by omega))
  have way := bp_way (k := k) n 0 (ba w k 0 g) (by omega) (fun q hq => absurd hq (by omega))
  have r5 : ∀ a, rm (lt (bgn g n k w) n k) a 5 = rm (ba w k 0 g) a 5 := fun a => by
    unfold rm
    rw [e271]
    unfold bgn
    exact k4 _ (by omega)
  intro p hp
  have nob : ∀ b, b < k → (lt (bgn g n k w) n k).1 282 p ≠ nI b := by
    intro b hb z
    rcases (L.at hp).2.2.2.2.2 with ⟨-, e, -⟩ | ⟨-, c, hc, e, hh, -⟩
    · rw [z] at e
      have := (nI_eq (by omega) (by omega)).mp e
      omega
    · unfold rf_hangs at hh
      rw [r5] at hh
      have hh := of_decide_eq_true hh
      rcases E1 c hc with ⟨y, -⟩ | ⟨y, -⟩ <;> rw [y] at hh <;> exact absurd hh (by decide)
  refine ⟨fun b hb z => absurd z (nob b hb), fun _ z => ?_⟩
  rw [e271] at z ⊢
  exact way p (by omega) z
end VKS
