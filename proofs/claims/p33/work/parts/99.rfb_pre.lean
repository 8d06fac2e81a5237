/-! ===== ends of arcs, sums, edges of points ===== -/
section RFB
variable {h g T : LH} {n k M d : Nat}
def tlv (h : LH) (a : Nat) : Nat := (rm h a 0).toNatClampNeg
def hdv (h : LH) (a : Nat) : Nat := (rm h a 1).toNatClampNeg
theorem RM.tu (H : RM h n k) {a : Nat} (ha : a < k) : tlv h a < n ∧ hdv h a < n := by
  have hn := H.1
  obtain ⟨p, q, hp, hq, ep, eq⟩ := H.ends ha
  unfold tlv hdv
  rw [ep, eq, nI_clamp (by omega), nI_clamp (by omega)]
  exact ⟨hp, hq⟩
theorem fs_lt {f g : Nat → Int} {b : Nat} : ∀ k, (∀ a, a < k → f a ≤ g a) → b < k → f b + 1 ≤ g b → fs f k + 1 ≤ fs g k
  | 0, _, hb, _ => absurd hb (by omega)
  | k + 1, e, hb, e2 => by
    have h2 := e k (by omega)
    rw [fs, fs]
    by_cases c : b = k
    · have h1 := fs_le k (fun a ha => e a (by omega))
      rw [c] at e2
      omega
    · have h1 := fs_lt k (fun a ha => e a (by omega)) (by omega) e2
      omega
/-- every edge that hangs is some point's -/
def TS (T : LH) (n k : Nat) : Prop := ∀ p q id, p < n → EG T n k p q id → ∃ s, s < n ∧ T.1 282 s = id
end RFB
