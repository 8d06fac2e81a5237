/-! ===== a cycle leaves a set an even number of times ===== -/
section RY
variable {g : LH} {n k : Nat}
theorem tw_succ : ∀ (i x : Nat), tw g (i + 1) x = uf g (tw g i x)
  | 0, _ => rfl
  | i + 1, x => tw_succ i (uf g x)
theorem path_const {S : Nat → Bool} {f : Nat → Nat} : ∀ (m lo : Nat), (∀ i, lo ≤ i → i < lo + m → S (f i) = S (f (i + 1))) → S (f lo) = S (f (lo + m))
  | 0, _, _ => rfl
  | m + 1, lo, hs => by
    have h1 := hs lo (Nat.le_refl _) (by omega)
    have h2 := path_const (S := S) (f := f) m (lo + 1) (fun i h3 h4 => hs i (by omega) (by omega))
    rw [h1, h2]
    congr 2
    omega
theorem tw_inj (T : LT g n k) {x i a b : Nat} (hx : x ≤ n) (hi : i ≤ df g x) (ha : a < i) (hb : b < i) (e : tw g a x = tw g b x) : a = b := by
  have h1 := (T.tu a x hx (by omega)).2
  have h2 := (T.tu b x hx (by omega)).2
  rw [e] at h1
  omega
/-- on one branch: if none but the edge of p0 = tw i0 x leaves S, its two sides are like the branch's ends -/
theorem branch1 (T : LT g n k) {S : Nat → Bool} {x i i0 : Nat} (hx : x ≤ n) (hi : i ≤ df g x) (h0 : i0 < i) (al : ∀ i1, i1 < i → tw g i1 x ≠ tw g i0 x → S (tw g i1 x) = S (uf g (tw g i1 x))) : S x = S (tw g i0 x) ∧ S (uf g (tw g i0 x)) = S (tw g i x) := by
  have ne : ∀ i1, i1 < i → i1 ≠ i0 → tw g i1 x ≠ tw g i0 x := fun i1 h1 h2 e => h2 (tw_inj T hx hi h1 h0 e)
  constructor
  · have := path_const (S := S) (f := fun i => tw g i x) i0 0 (fun i1 _ h2 => by
      show S (tw g i1 x) = S (tw g (i1 + 1) x)
      rw [tw_succ]
      exact al i1 (by omega) (ne i1 (by omega) (by omega)))
    rw [Nat.zero_add] at this
    exact this
  · have := path_const (S := S) (f := fun i => tw g i x) (i - (i0 + 1)) (i0 + 1) (fun i1 h1 h2 => by
      show S (tw g i1 x) = S (tw g (i1 + 1) x)
      rw [tw_succ]
      exact al i1 (by omega) (ne i1 (by omega) (by omega)))
    rw [← tw_succ]
    have e : i0 + 1 + (i - (i0 + 1)) = i := by omega
    rw [e] at this
    exact this
/-- on the other: all alike -/
theorem branch2 {S : Nat → Bool} {y j : Nat} (al : ∀ j1, j1 < j → S (tw g j1 y) = S (uf g (tw g j1 y))) : S y = S (tw g j y) := by
  have := path_const (S := S) (f := fun i => tw g i y) j 0 (fun i1 _ h2 => by
    show S (tw g i1 y) = S (tw g (i1 + 1) y)
    rw [tw_succ]
    exact al i1 (by omega))
  rw [Nat.zero_add] at this
  exact this
theorem cyc_even (T : LT g n k) {S : Nat → Bool} {x y i j : Nat} (hx : x ≤ n) (hy : y ≤ n) (hi : i ≤ df g x) (hj : j ≤ df g y) (ez : tw g i x = tw g j y) (dis : ∀ i2 j2, i2 < i → j2 < j → tw g i2 x ≠ tw g j2 y) (hxy : S x = S y) {p0 : Nat} (on : (∃ i0, i0 < i ∧ p0 = tw g i0 x) ∨ ∃ j0, j0 < j ∧ p0 = tw g j0 y) (cr : S p0 ≠ S (uf g p0)) : ∃ p, p ≠ p0 ∧ ((∃ i1, i1 < i ∧ p = tw g i1 x) ∨ ∃ j1, j1 < j ∧ p = tw g j1 y) ∧ S p ≠ S (uf g p) := by
  refine Classical.byContradiction fun no => ?_
  have al : ∀ p, p ≠ p0 → ((∃ i1, i1 < i ∧ p = tw g i1 x) ∨ ∃ j1, j1 < j ∧ p = tw g j1 y) → S p = S (uf g p) := fun p h1 h2 => Classical.byContradiction fun h3 => no ⟨p, h1, h2, h3⟩
  rcases on with ⟨i0, h0, e0⟩ | ⟨j0, h0, e0⟩
  · have b1 := branch1 T (S := S) hx hi h0 (fun i1 h1 h2 => al _ (by rw [e0]; exact h2) (Or.inl ⟨i1, h1, rfl⟩))
    have b2 := branch2 (S := S) (g := g) (y := y) (j := j) (fun j1 h1 => al _ (by rw [e0]; exact fun z => dis i0 j1 h0 h1 z.symm) (Or.inr ⟨j1, h1, rfl⟩))
    rw [← e0] at b1
    exact cr (by rw [← b1.1, b1.2, hxy, b2, ez])
  · have b1 := branch1 T (S := S) hy hj h0 (fun j1 h1 h2 => al _ (by rw [e0]; exact h2) (Or.inr ⟨j1, h1, rfl⟩))
    have b2 := branch2 (S := S) (g := g) (y := x) (j := i) (fun i1 h1 => al _ (by rw [e0]; exact fun z => dis i1 j0 h1 h0 z) (Or.inl ⟨i1, h1, rfl⟩))
    rw [← e0] at b1
    exact cr (by rw [← b1.1, b1.2, ← hxy, b2, ez])
end RY
