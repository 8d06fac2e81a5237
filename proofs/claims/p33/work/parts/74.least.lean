/-! ===== the least room of the reference's cycle is one of its rooms ===== -/
section RM4
variable {g : LH} {n k : Nat}
/-- arcs that do not hang are empty or full; bounds stand in 0 to 99 -/
def FB (g : LH) (k : Nat) : Prop := ∀ a, a < k → vp_in (rm g a 2) 100 ∧ (rm g a 5 = 0 → rm g a 4 = 0) ∧ (rm g a 5 = 1 → rm g a 4 = rm g a 2)
theorem lc_at {a x y : Nat} : (lc g a x y).1 285 (df g x - df g (lc_z g x y)) = nI a := by
  unfold lc
  obtain ⟨u1, -⟩ := gu_ids (df g y - df g (lc_z g x y)) (df g x - df g (lc_z g x y) + 1) y (lc_3 g a x y)
  rw [u1 _ (by omega)]
  unfold lc_3
  rw [as_285, if_pos rfl]
theorem off_w {a : Nat} (ho : rf_off g a = true) : rm g a 5 = 0 ∨ rm g a 5 = 1 := by
  unfold rf_off at ho
  simp only [Bool.and_eq_true, Bool.or_eq_true, decide_eq_true_eq] at ho
  rcases ho.2.2 with z | z
  · exact Or.inl z.1
  · exact Or.inr z.1
theorem lc_least (T : LT g n k) (B : FB g k) {a x y : Nat} (ha : a < k) (hx : x ≤ n) (hy : y ≤ n) (ho : rf_off g a = true) : ∃ j, j < lc_n g x y ∧ rr (lc g a x y) j = rlr (lc g a x y) (lc_n g x y) 0 1000000 := by
  have hn := T.1.1
  obtain ⟨-, F, -, -, -, -⟩ := lc_ok T ha hx hy
  have r : ∀ w, rm (lc g a x y) a w = rm g a w := fun w => by
    unfold rm
    rw [F.1 271 (by decide) (by decide) (by decide)]
  obtain ⟨b1, b2, b3⟩ := B a ha
  obtain ⟨bd, hbd, eb⟩ := vi_nI b1
  have hat := lc_at (g := g) (a := a) (x := x) (y := y)
  have hlt : rr (lc g a x y) (df g x - df g (lc_z g x y)) < 1000000 := by
    unfold rr
    rw [hat, loan_a (by omega), if_neg Bool.false_ne_true, nI_clamp (by omega), r, r]
    have m1 : nI bd < 1000000 := nI_lt (b := 1000000) (by omega) (by omega)
    have m0 : (0 : Int32) < 1000000 := by decide
    rcases off_w ho with z | z
    · rw [b2 z]
      split
      · exact m0
      · rw [eb, Int32.sub_zero]
        exact m1
    · rw [b3 z]
      split
      · rw [eb]
        exact m1
      · rw [Int32.sub_self]
        exact m0
  have hle := (rlr_le (g := lc g a x y) (lc_n g x y) 0 1000000).2 (df g x - df g (lc_z g x y)) (Nat.zero_le _) (by unfold lc_n; omega)
  rcases rlr_or (g := lc g a x y) (lc_n g x y) 0 1000000 with z | ⟨j, h1, h2, h3⟩
  · rw [z] at hle
    exact absurd hlt (Int32.not_lt.mpr hle)
  · exact ⟨j, by omega, h3⟩
end RM4
