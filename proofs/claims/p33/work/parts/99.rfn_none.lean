/-! ===== which place of the cycle leaves ===== -/
section VTN
variable {T : LH} {n k M : Nat}
/-- the place that leaves is the last with the least room -/
theorem lvx_last {g : LH} {dl : Int32} {mm : Nat} : ∀ (f i : Nat) (l : Int32), i + f ≤ 16 → mm < 16 → (∀ j, i ≤ j → j < i + f → rr g j = dl → j ≤ mm) ∨ ¬ (lvx g dl f i l = nI mm)
  | 0, i, l, _, _ => Or.inl (fun j h1 h2 => by omega)
  | f + 1, i, l, hi, hm => by
    rw [lvx]
    rcases lvx_last (g := g) (dl := dl) (mm := mm) f (i + 1) (if rr g i = dl then nI i else l) (by omega) hm with h | h
    · by_cases c : rr g i = dl
      · rw [if_pos c]
        by_cases e : lvx g dl f (i + 1) (nI i) = nI mm
        · left
          intro j h1 h2 h3
          by_cases ji : j = i
          · rcases lvx_or (g := g) (dl := dl) f (i + 1) (nI i) with z | ⟨q, q1, q2, q3, q4⟩
            · rw [z] at e
              have := (nI_eq (by omega) (by omega)).mp e
              omega
            · rw [q4] at e
              have := (nI_eq (by omega) (by omega)).mp e
              omega
          · exact h j (by omega) (by omega) h3
        · exact Or.inr e
      · left
        intro j h1 h2 h3
        by_cases ji : j = i
        · rw [ji] at h3
          exact absurd h3 c
        · exact h j (by omega) (by omega) h3
    · exact Or.inr h
end VTN
