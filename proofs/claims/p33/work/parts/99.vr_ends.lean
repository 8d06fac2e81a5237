/-! ===== the steep rule ends within 700,000 pivots ===== -/
section VRE
variable {n k : Nat}
theorem sd_all {Ts : Nat → LH} {N : Nat} (D : ∀ i, i < N → SD (Ts i) (Ts (i + 1)) n k) : ∀ (f i : Nat), i + f ≤ N → SD (Ts i) (Ts (i + f)) n k
  | 0, _, _ => SD.rf
  | f + 1, i, h => (sd_all D f i (by omega)).tr (D (i + f) (by omega))
theorem steep_ends {Ts : Nat → LH} {Ms : Nat → Nat} {N : Nat} (X : ∀ i, i ≤ N → SX (Ts i) n k (Ms i)) (D : ∀ i, i < N → SD (Ts i) (Ts (i + 1)) n k) (st : ∀ i, i < N → ∃ R : Int, 1 ≤ R ∧ R ≤ 100000 ∧ R ≤ cst (Ts i) n k - cst (Ts (i + 1)) n k ∧ ∀ b, b < k → rf_off (Ts i) b = true → (rf_far (Ts i) b).toInt ≤ R) : N ≤ 694401 := by
  rcases Nat.eq_zero_or_pos N with z | z
  · omega
  have one : ∀ i, i < N → 1 ≤ (cst (Ts i) n k - cst (Ts N) n k) - (cst (Ts (i + 1)) n k - cst (Ts N) n k) := fun i hi => by
    obtain ⟨R, r1, r2, r3, -⟩ := st i hi
    omega
  have part : ∀ i, i < N → cst (Ts i) n k - cst (Ts N) n k ≤ ((11200 : Nat) : Int) * ((cst (Ts i) n k - cst (Ts N) n k) - (cst (Ts (i + 1)) n k - cst (Ts N) n k)) := fun i hi => by
    obtain ⟨R, r1, r2, r3, r4⟩ := st i hi
    have sd := sd_all D (N - i) i (by omega)
    rw [show i + (N - i) = N by omega] at sd
    have g := gap_le (X i (by omega)) (X N (Nat.le_refl _)) sd (by omega) r4
    omega
  have big : cst (Ts 0) n k - cst (Ts N) n k ≤ 2 ^ 31 := by
    obtain ⟨R, r1, r2, r3, r4⟩ := st 0 z
    have sd := sd_all D (N - 0) 0 (by omega)
    rw [show 0 + (N - 0) = N by omega] at sd
    have g := gap_le (X 0 (by omega)) (X N (Nat.le_refl _)) sd (by omega) r4
    have : (2 : Int) ^ 31 = 2147483648 := by decide
    omega
  have := gap_half (D := fun i => cst (Ts i) n k - cst (Ts N) n k) (N := N) (m := 11200) (by decide) one part (by show 0 ≤ cst (Ts N) n k - cst (Ts N) n k; omega) 31 0 (by omega) big
  omega
end VRE
