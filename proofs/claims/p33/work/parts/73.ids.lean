/-! ===== which edges the reference's cycle holds ===== -/
section RI
variable {g : LH} {n k : Nat}
theorem as_285 {c m : Nat} {id fr : Int32} : (as1 g c id fr).1 285 m = if m = c then id else g.1 285 m := by
  unfold as1
  rw [w1_ne (by decide), w1_ne (by decide)]
  by_cases e : m = c
  · rw [if_pos e, e, w1_eq]
  · rw [if_neg e, w1_at e]
theorem as_282 {c : Nat} {id fr : Int32} : (as1 g c id fr).1 282 = g.1 282 := as1_lo.1 282 (by decide) (by decide) (by decide)
theorem gd_ids : ∀ (i c x : Nat) (g : LH), (∀ m, m < c → (gd c i x g).1 285 m = g.1 285 m) ∧ ∀ m, c ≤ m → m < c + i → ∃ i0, i0 < i ∧ (gd c i x g).1 285 m = g.1 282 (tw g i0 x)
  | 0, c, x, g => ⟨fun _ _ => rfl, fun m h1 h2 => absurd h2 (by omega)⟩
  | i + 1, c, x, g => by
    rw [gd]
    obtain ⟨k1, k2⟩ := gd_ids i (c + 1) x (as1 g c (g.1 282 (tw g i x)) (g.1 281 (tw g i x)))
    refine ⟨fun m hm => ?_, fun m h1 h2 => ?_⟩
    · rw [k1 m (by omega), as_285, if_neg (by omega)]
    · by_cases e : m = c
      · refine ⟨i, by omega, ?_⟩
        rw [k1 m (by omega), as_285, if_pos e]
      · obtain ⟨i0, h3, h4⟩ := k2 m (by omega) (by omega)
        refine ⟨i0, by omega, ?_⟩
        rw [h4, as_282, tw_same as_281]
theorem gu_ids : ∀ (j c y : Nat) (g : LH), (∀ m, m < c → (gu c j y g).1 285 m = g.1 285 m) ∧ ∀ m, c ≤ m → m < c + j → ∃ j0, j0 < j ∧ (gu c j y g).1 285 m = g.1 282 (tw g j0 y)
  | 0, c, y, g => ⟨fun _ _ => rfl, fun m h1 h2 => absurd h2 (by omega)⟩
  | j + 1, c, y, g => by
    rw [gu]
    obtain ⟨k1, k2⟩ := gu_ids j (c + 1) (uf g y) (as1 g c (g.1 282 y) (nI y))
    refine ⟨fun m hm => ?_, fun m h1 h2 => ?_⟩
    · rw [k1 m (by omega), as_285, if_neg (by omega)]
    · by_cases e : m = c
      · refine ⟨0, by omega, ?_⟩
        rw [k1 m (by omega), as_285, if_pos e]
        rfl
      · obtain ⟨j0, h3, h4⟩ := k2 m (by omega) (by omega)
        refine ⟨j0 + 1, by omega, ?_⟩
        rw [h4, as_282, tw_same as_281]
        rfl
/-- each step of the cycle: the arc itself, or the edge above a point of a branch -/
theorem lc_ids {a x y m : Nat} (hm : m < lc_n g x y) : (lc g a x y).1 285 m = nI a ∨ (∃ i0, i0 < df g x - df g (lc_z g x y) ∧ (lc g a x y).1 285 m = g.1 282 (tw g i0 x)) ∨ ∃ j0, j0 < df g y - df g (lc_z g x y) ∧ (lc g a x y).1 285 m = g.1 282 (tw g j0 y) := by
  unfold lc_n at hm
  unfold lc
  obtain ⟨u1, u2⟩ := gu_ids (df g y - df g (lc_z g x y)) (df g x - df g (lc_z g x y) + 1) y (lc_3 g a x y)
  have q1 : (lc_1 g x y).1 281 = g.1 281 := by unfold lc_1; rw [w1_ne (by decide), w1_ne (by decide)]
  have q2 : (lc_1 g x y).1 282 = g.1 282 := by unfold lc_1; rw [w1_ne (by decide), w1_ne (by decide)]
  have d0 : ∀ (i c : Nat) (g : LH), (gd c i x g).1 281 = g.1 281 ∧ (gd c i x g).1 282 = g.1 282 := by
    intro i
    induction i with
    | zero => intro c g; exact ⟨rfl, rfl⟩
    | succ i ih =>
      intro c g
      rw [gd]
      obtain ⟨z1, z2⟩ := ih (c + 1) (as1 g c (g.1 282 (tw g i x)) (g.1 281 (tw g i x)))
      exact ⟨z1.trans as_281, z2.trans as_282⟩
  have r1 : (lc_3 g a x y).1 281 = g.1 281 := by
    unfold lc_3 lc_2
    rw [as_281, (d0 _ _ _).1, q1]
  have r2 : (lc_3 g a x y).1 282 = g.1 282 := by
    unfold lc_3 lc_2
    rw [as_282, (d0 _ _ _).2, q2]
  by_cases h1 : m < df g x - df g (lc_z g x y) + 1
  · rw [u1 m h1]
    unfold lc_3
    rw [as_285]
    by_cases e : m = df g x - df g (lc_z g x y)
    · rw [if_pos e]
      exact Or.inl rfl
    · rw [if_neg e]
      unfold lc_2
      obtain ⟨i0, h3, h4⟩ := (gd_ids (df g x - df g (lc_z g x y)) 0 x (lc_1 g x y)).2 m (Nat.zero_le _) (by omega)
      exact Or.inr (Or.inl ⟨i0, h3, by rw [h4, q2, tw_same q1]⟩)
  · obtain ⟨j0, h3, h4⟩ := u2 m (by omega) (by omega)
    exact Or.inr (Or.inr ⟨j0, h3, by rw [h4, r2, tw_same r1]⟩)
end RI
