/-! ===== a pivot keeps the cut property ===== -/
section RK
variable {g g2 : LH} {n k : Nat}
theorem on_lt (T : LT g n k) {x i i1 : Nat} (hx : x ≤ n) (hi : i ≤ df g x) (h1 : i1 < i) : tw g i1 x < n := by
  obtain ⟨b1, b2⟩ := T.tu i1 x hx (by omega)
  exact T.lt b1 (by omega)
/-- two points never hang by one edge -/
theorem by_inj (T : LT g n k) {p q : Nat} (hp : p < n) (hq : q < n) (e : g.1 282 p = g.1 282 q) : p = q := by
  have hn := T.1.1
  obtain ⟨-, u1, d1, -, -, E1⟩ := T.at hp
  obtain ⟨-, u2, d2, -, -, E2⟩ := T.at hq
  have inj : ∀ {a b : Nat}, a < 1000 → b < 1000 → nI a = nI b → a = b := fun h1 h2 e => (nI_eq (by omega) (by omega)).mp e
  rcases E1 with ⟨-, e1, -⟩ | ⟨l1, a, ha, e1, -, o1⟩
  · rcases E2 with ⟨-, e2, -⟩ | ⟨-, b, hb, e2, -⟩
    · have := inj (by omega) (by omega) (e1.symm.trans (e.trans e2))
      omega
    · have := inj (by omega) (by omega) (e1.symm.trans (e.trans e2))
      omega
  · rcases E2 with ⟨-, e2, -⟩ | ⟨l2, b, hb, e2, -, o2⟩
    · have := inj (by omega) (by omega) (e1.symm.trans (e.trans e2))
      omega
    · have hab : a = b := inj (by omega) (by omega) (e1.symm.trans (e.trans e2))
      subst hab
      rcases o1 with ⟨x1, x2⟩ | ⟨x1, x2⟩ <;> rcases o2 with ⟨y1, y2⟩ | ⟨y1, y2⟩
      · exact inj (by omega) (by omega) (x1.symm.trans y1)
      · have z1 : p = uf g q := inj (by omega) (by omega) (x1.symm.trans y2)
        have z2 : uf g p = q := inj (by omega) (by omega) (x2.symm.trans y1)
        rw [z2] at d1
        rw [← z1] at d2
        omega
      · have z1 : p = uf g q := inj (by omega) (by omega) (x1.symm.trans y2)
        have z2 : uf g p = q := inj (by omega) (by omega) (x2.symm.trans y1)
        rw [z2] at d1
        rw [← z1] at d2
        omega
      · exact inj (by omega) (by omega) (x1.symm.trans y1)
theorem CP.piv (T : LT g n k) (C : CP g n k) {a x y i j p0 : Nat} (ha : a < k) (hx : x < n) (hy : y < n) (ends : (rm g a 0 = nI x ∧ rm g a 1 = nI y) ∨ (rm g a 1 = nI x ∧ rm g a 0 = nI y)) (hi : i ≤ df g x) (hj : j ≤ df g y) (ez : tw g i x = tw g j y) (dis : ∀ i2 j2, i2 < i → j2 < j → tw g i2 x ≠ tw g j2 y) (on : (∃ i0, i0 < i ∧ p0 = tw g i0 x) ∨ ∃ j0, j0 < j ∧ p0 = tw g j0 y)
    (hR : ∀ b, b < k → rm g2 b 0 = rm g b 0 ∧ rm g2 b 1 = rm g b 1) (hA : rf_hangs g2 a = true) (hH : ∀ b, b < k → g.1 282 p0 ≠ nI b → rf_hangs g b = true → rf_hangs g2 b = true) (hL : ∀ p, p < n → g.1 282 p0 ≠ nI (100 + p) → g.1 271 (51 + p) = 1 → g2.1 271 (51 + p) = 1) : CP g2 n k := by
  have hn := T.1.1
  have inj : ∀ {a b : Nat}, a < 1000 → b < 1000 → nI a = nI b → a = b := fun h1 h2 e => (nI_eq (by omega) (by omega)).mp e
  have hp0 : p0 < n := by
    rcases on with ⟨i0, h0, e0⟩ | ⟨j0, h0, e0⟩
    · rw [e0]
      exact on_lt T (by omega) hi h0
    · rw [e0]
      exact on_lt T (by omega) hj h0
  intro S hS hex
  -- an arc that hangs now and leaves S
  have arc : ∀ b p q, b < k → rf_hangs g2 b = true → p < n → q < n → S p ≠ S q → ((rm g b 0 = nI p ∧ rm g b 1 = nI q) ∨ (rm g b 1 = nI p ∧ rm g b 0 = nI q)) → ∃ a p q : Nat, a < k ∧ rf_hangs g2 a = true ∧ p < n ∧ q < n ∧ S p = true ∧ S q = false ∧ ((rm g2 a 0 = nI p ∧ rm g2 a 1 = nI q) ∨ (rm g2 a 1 = nI p ∧ rm g2 a 0 = nI q)) := by
    intro b p q hb hh hp hq hne ed
    rw [← (hR b hb).1, ← (hR b hb).2] at ed
    cases hSp : S p with
    | true =>
      refine ⟨b, p, q, hb, hh, hp, hq, hSp, ?_, ed⟩
      cases hSq : S q with
      | true => exact absurd (hSp.trans hSq.symm) hne
      | false => rfl
    | false =>
      refine ⟨b, q, p, hb, hh, hq, hp, ?_, hSp, ed.symm.imp And.symm And.symm⟩
      cases hSq : S q with
      | true => rfl
      | false => exact absurd (hSp.trans hSq.symm) hne
  have other : S p0 ≠ S (uf g p0) → (∃ p, p < n ∧ S p = false ∧ g2.1 271 (51 + p) = 1) ∨ ∃ a p q : Nat, a < k ∧ rf_hangs g2 a = true ∧ p < n ∧ q < n ∧ S p = true ∧ S q = false ∧ ((rm g2 a 0 = nI p ∧ rm g2 a 1 = nI q) ∨ (rm g2 a 1 = nI p ∧ rm g2 a 0 = nI q)) := by
    intro cr
    by_cases hxy : S x = S y
    · obtain ⟨p, hne, onp, crp⟩ := cyc_even T (S := S) (show x ≤ n by omega) (show y ≤ n by omega) hi hj ez dis hxy on cr
      have hp : p < n := by
        rcases onp with ⟨i0, h0, e0⟩ | ⟨j0, h0, e0⟩
        · rw [e0]
          exact on_lt T (by omega) hi h0
        · rw [e0]
          exact on_lt T (by omega) hj h0
      have hby : g.1 282 p0 ≠ g.1 282 p := fun z => hne (by_inj T hp0 hp z).symm
      obtain ⟨-, -, -, -, -, E⟩ := T.at hp
      rcases E with ⟨e1, e2, e3⟩ | ⟨l1, b, hb, e2, e3, ed⟩
      · rw [e1, hS] at crp
        refine Or.inl ⟨p, hp, by cases z : S p with | true => exact absurd z crp | false => rfl, hL p hp (by rw [← e2]; exact hby) e3⟩
      · exact Or.inr (arc b p (uf g p) hb (hH b hb (by rw [← e2]; exact hby) e3) hp l1 crp ed)
    · exact Or.inr (arc a x y ha hA hx hy hxy ends)
  obtain ⟨-, -, -, -, -, E0⟩ := T.at hp0
  rcases C S hS hex with ⟨p, hp, hSp, hl⟩ | ⟨b, p, q, hb, hh, hp, hq, hSp, hSq, ed⟩
  · by_cases e : g.1 282 p0 = nI (100 + p)
    · rcases E0 with ⟨e1, e2, -⟩ | ⟨-, b, hb, e2, -⟩
      · have : p0 = p := by
          have := inj (by omega) (by omega) (e2.symm.trans e)
          omega
        refine other ?_
        rw [e1, this, hSp, hS]
        decide
      · have := inj (by omega) (by omega) (e2.symm.trans e)
        omega
    · exact Or.inl ⟨p, hp, hSp, hL p hp e hl⟩
  · by_cases e : g.1 282 p0 = nI b
    · rcases E0 with ⟨-, e2, -⟩ | ⟨l0, b2, hb2, e2, -, ed2⟩
      · have := inj (by omega) (by omega) (e2.symm.trans e)
        omega
      · have hbb : b2 = b := inj (by omega) (by omega) (e2.symm.trans e)
        subst hbb
        refine other ?_
        have key : (p0 = p ∧ uf g p0 = q) ∨ (p0 = q ∧ uf g p0 = p) := by
          rcases ed with ⟨x1, x2⟩ | ⟨x1, x2⟩ <;> rcases ed2 with ⟨y1, y2⟩ | ⟨y1, y2⟩
          · exact Or.inl ⟨inj (by omega) (by omega) (y1.symm.trans x1), inj (by omega) (by omega) (y2.symm.trans x2)⟩
          · exact Or.inr ⟨inj (by omega) (by omega) (y1.symm.trans x2), inj (by omega) (by omega) (y2.symm.trans x1)⟩
          · exact Or.inr ⟨inj (by omega) (by omega) (y1.symm.trans x2), inj (by omega) (by omega) (y2.symm.trans x1)⟩
          · exact Or.inl ⟨inj (by omega) (by omega) (y1.symm.trans x1), inj (by omega) (by omega) (y2.symm.trans x2)⟩
        rcases key with ⟨z1, z2⟩ | ⟨z1, z2⟩
        · rw [z2, z1, hSp, hSq]
          decide
        · rw [z2, z1, hSp, hSq]
          decide
    · exact Or.inr (arc b p q hb (hH b hb e hh) hp hq (by rw [hSp, hSq]; decide) ed)
end RK
