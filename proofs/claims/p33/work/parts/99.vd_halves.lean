/-! ===== a gap that falls by its own part each time is soon gone ===== -/
section VDH
theorem gap_mono {D : Nat → Int} {N : Nat} (one : ∀ i, i < N → 1 ≤ D i - D (i + 1)) : ∀ (f i : Nat), i + f ≤ N → D (i + f) ≤ D i
  | 0, i, _ => Int.le_refl _
  | f + 1, i, h => by
    have h1 := gap_mono one f i (by omega)
    have h2 := one (i + f) (by omega)
    rw [show i + (f + 1) = i + f + 1 by omega]
    omega
theorem gap_sum {D : Nat → Int} {N m : Nat} {B : Int} (part : ∀ i, i < N → D i ≤ (m : Int) * (D i - D (i + 1))) : ∀ (f i : Nat), i + f ≤ N → (∀ l, i ≤ l → l < i + f → B < D l) → (f : Int) * B ≤ (m : Int) * (D i - D (i + f))
  | 0, i, _, _ => by
    have : D i - D (i + 0) = 0 := Int.sub_self _
    rw [this]
    omega
  | f + 1, i, h, big => by
    have h1 := gap_sum part f i (by omega) (fun l h1 h2 => big l h1 (by omega))
    have h2 := part (i + f) (by omega)
    have h3 := big (i + f) (by omega) (by omega)
    rw [show i + (f + 1) = i + f + 1 by omega]
    have e1 : ((f + 1 : Nat) : Int) * B = (f : Int) * B + B := by grind
    have e2 : (m : Int) * (D i - D (i + f + 1)) = (m : Int) * (D i - D (i + f)) + (m : Int) * (D (i + f) - D (i + f + 1)) := by grind
    rw [e1, e2]
    omega
theorem gap_half {D : Nat → Int} {N m : Nat} (hm : 0 < m) (one : ∀ i, i < N → 1 ≤ D i - D (i + 1)) (part : ∀ i, i < N → D i ≤ (m : Int) * (D i - D (i + 1))) (pos : 0 ≤ D N) : ∀ (j i : Nat), i ≤ N → D i ≤ 2 ^ j → N ≤ i + 2 * m * j + 1
  | 0, i, hi, b => by
    rcases Nat.lt_or_ge (i + 1) N with c | c
    · have h1 := one i (by omega)
      have h2 := one (i + 1) (by omega)
      have h3 := gap_mono one (N - (i + 2)) (i + 2) (by omega)
      rw [show i + 2 + (N - (i + 2)) = N by omega] at h3
      have b1 : D i ≤ 1 := b
      have : D (i + 1 + 1) = D (i + 2) := rfl
      omega
    · omega
  | j + 1, i, hi, b => by
    rcases Nat.lt_or_ge N (i + 2 * m) with c | c
    · have : 2 * m ≤ 2 * m * (j + 1) := Nat.le_mul_of_pos_right _ (by omega)
      omega
    · have p2 : (2 : Int) ^ (j + 1) = 2 * 2 ^ j := by
        rw [Int.pow_succ]
        omega
      have pj : (0 : Int) < 2 ^ j := Int.pow_pos (by decide)
      have low : D (i + 2 * m) ≤ 2 ^ j := by
        by_cases ex : ∃ l, i ≤ l ∧ l < i + 2 * m ∧ D l ≤ 2 ^ j
        · obtain ⟨l, h1, h2, h3⟩ := ex
          have := gap_mono one (i + 2 * m - l) l (by omega)
          rw [show l + (i + 2 * m - l) = i + 2 * m by omega] at this
          omega
        · have big : ∀ l, i ≤ l → l < i + 2 * m → (2 : Int) ^ j < D l := fun l h1 h2 => by
            rcases Int.lt_or_le (2 ^ j) (D l) with z | z
            · exact z
            · exact absurd ⟨l, h1, h2, z⟩ ex
          have s := gap_sum part (2 * m) i c big
          have e1 : ((2 * m : Nat) : Int) * 2 ^ j = (m : Int) * (2 * 2 ^ j) := by grind
          rw [e1] at s
          have s2 := Int.le_of_mul_le_mul_left s (by omega)
          rw [p2] at b
          omega
      have ih := gap_half hm one part pos j (i + 2 * m) c low
      have e3 : 2 * m * (j + 1) = 2 * m * j + 2 * m := by grind
      omega
end VDH
