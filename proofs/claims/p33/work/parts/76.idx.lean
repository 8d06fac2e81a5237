/-! ===== the cycle's steps, place by place ===== -/
section RX
variable {g : LH} {n k : Nat}
theorem gd_at : ∀ (i c x m : Nat) (g : LH), m < i → (gd c i x g).1 285 (c + m) = g.1 282 (tw g (i - 1 - m) x)
  | 0, _, _, _, _, hm => absurd hm (by omega)
  | i + 1, c, x, m, g, hm => by
    rw [gd]
    cases m with
    | zero =>
      rw [(gd_ids i (c + 1) x _).1 (c + 0) (by omega), as_285, if_pos (by omega)]
      rfl
    | succ m =>
      have := gd_at i (c + 1) x m (as1 g c (g.1 282 (tw g i x)) (g.1 281 (tw g i x))) (by omega)
      rw [as_282, tw_same as_281] at this
      rw [show c + (m + 1) = c + 1 + m by omega, this, show i + 1 - 1 - (m + 1) = i - 1 - m by omega]
theorem gu_at : ∀ (j c y m : Nat) (g : LH), m < j → (gu c j y g).1 285 (c + m) = g.1 282 (tw g m y)
  | 0, _, _, _, _, hm => absurd hm (by omega)
  | j + 1, c, y, m, g, hm => by
    rw [gu]
    cases m with
    | zero =>
      rw [(gu_ids j (c + 1) (uf g y) _).1 (c + 0) (by omega), as_285, if_pos (by omega)]
      rfl
    | succ m =>
      have := gu_at j (c + 1) (uf g y) m (as1 g c (g.1 282 y) (nI y)) (by omega)
      rw [as_282, tw_same as_281] at this
      rw [show c + (m + 1) = c + 1 + m by omega, this]
      rfl
end RX
