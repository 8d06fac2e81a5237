/-! ===== the reference keeps an arc ===== -/
section RX6
variable {h g : LH} {d : Nat} {c : Nat → Int32}
/-- the row of arcs told, with arc n in it -/
def px_tl (f : Nat → Int32) (n : Nat) (a0 a1 a2 a3 : Int32) : Nat → Int32 := fun i => if i = 7 * n + 3 then a3 else if i = 7 * n + 2 then a2 else if i = 7 * n + 1 then a1 else if i = 7 * n then a0 else f i
theorem sx_arcK {n : Nat} {x1 : Int32} (hn : n ≤ 14) (e19 : g.1 270 19 = nI n) {Q : tf_Q} (q : ∀ g2, (∀ e, e ≠ 270 → e ≠ 277 → g2.1 e = g.1 e) → g2.2 = g.2 → (∀ i, i ≠ 19 → g2.1 270 i = g.1 270 i) → g2.1 270 19 = nI (if n < 14 then n + 1 else n) → g2.1 277 = (if n < 14 then px_tl (g.1 277) n (g.1 275 0) (g.1 275 1) (g.1 275 2) (x1 * g.1 275 3) else g.1 277) → Q (.int 1) g2) : lx_X9_arcLine 298 (tf_Cd 298 d) Q 68 [.ref 270, .int x1, tf_z] [] g := by
  have m7 : ∀ j : Nat, (7 * nI n + nI j : Int32) = nI (7 * n + j) := fun j => by rw [show (7 : Int32) = nI 7 from rfl, nI_mul, nI_add]
  have m0 : (7 * nI n + 0 : Int32) = nI (7 * n) := m7 0
  have m1 : (7 * nI n + 1 : Int32) = nI (7 * n + 1) := m7 1
  have m2 : (7 * nI n + 2 : Int32) = nI (7 * n + 2) := m7 2
  have m3 : (7 * nI n + 3 : Int32) = nI (7 * n + 3) := m7 3
  by_cases n14 : n < 14
  · rw [if_pos n14, if_pos n14] at q
    refine go_X9_arcLine_68 (by decide) ⟨fun z => absurd (show nI 14 ≤ nI n by rw [← e19]; exact z) (nI_ge n14 (by omega)), fun _ => ?_⟩
    rw [e19, m0, m1, m2, m3, nI_clamp (show 7 * n < 2147483648 by omega), nI_clamp (show 7 * n + 1 < 2147483648 by omega), nI_clamp (show 7 * n + 2 < 2147483648 by omega), nI_clamp (show 7 * n + 3 < 2147483648 by omega)]
    refine ⟨vi_of (by omega) (by omega), vi_of (by omega) (by omega), vi_of (by omega) (by omega), vi_of (by omega) (by omega), go_X9_arcLine_153 (by decide) ?_⟩
    have e : ∃ (A B C D E : Int32), A = g.1 275 0 ∧ B = g.1 275 1 ∧ C = g.1 275 2 ∧ D = x1 * g.1 275 3 ∧ E = nI (n + 1) ∧ Q (.int 1) (w1 (w1 (w1 (w1 (w1 g 277 (7 * n) A) 277 (7 * n + 1) B) 277 (7 * n + 2) C) 277 (7 * n + 3) D) 270 19 E) := by
      refine ⟨_, _, _, _, _, rfl, rfl, rfl, rfl, rfl, q _ (fun e h1 h2 => ?_) rfl (fun i hi => ?_) w1_eq ?_⟩
      · rw [w1_ne h1, w1_ne h2, w1_ne h2, w1_ne h2, w1_ne h2]
      · rw [w1_at hi, w1_ne (by decide), w1_ne (by decide), w1_ne (by decide), w1_ne (by decide)]
      · funext i
        rw [w1_ne (by decide)]
        unfold px_tl
        by_cases i3 : i = 7 * n + 3
        · rw [if_pos i3, i3, w1_eq]
        · rw [if_neg i3, w1_at i3]
          by_cases i2 : i = 7 * n + 2
          · rw [if_pos i2, i2, w1_eq]
          · rw [if_neg i2, w1_at i2]
            by_cases i1 : i = 7 * n + 1
            · rw [if_pos i1, i1, w1_eq]
            · rw [if_neg i1, w1_at i1]
              by_cases i0 : i = 7 * n
              · rw [if_pos i0, i0, w1_eq]
              · rw [if_neg i0, w1_at i0]
    obtain ⟨A, B, C, D, E, eA, eB, eC, eD, eE, hq⟩ := e
    subst eA eB eC eD
    have E2 : E = (w1 (w1 (w1 (w1 g 277 (7 * n) (g.1 275 0)) 277 (7 * n + 1) (g.1 275 1)) 277 (7 * n + 2) (g.1 275 2)) 277 (7 * n + 3) (x1 * g.1 275 3)).1 270 19 + 1 := by
      rw [eE, w1_ne (by decide), w1_ne (by decide), w1_ne (by decide), w1_ne (by decide), e19, nI_1]
    rw [E2] at hq
    exact hq
  · rw [if_neg n14, if_neg n14] at q
    refine go_X9_arcLine_68 (by decide) ⟨fun _ => go_X9_arcLine_153 (by decide) (q g (fun _ _ _ => rfl) rfl (fun _ _ => rfl) e19 rfl), fun z => absurd (show (14 : Int32) ≤ g.1 270 19 by rw [e19]; exact nI_le (a := 14) (by omega) (by omega)) z⟩
end RX6
