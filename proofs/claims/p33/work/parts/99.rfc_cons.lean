/-! ===== what each point has: kept by what flows round a cycle ===== -/
section VAC
variable {h g g1 T : LH} {n k M d : Nat}
def fz (f : Nat → Int32) : Nat → Int32
  | 0 => 0
  | k + 1 => fz f k + f k
def dw (t u : Nat → Nat) (f : Nat → Int32) (k p : Nat) : Int32 := fz (fun a => (if t a = p then f a else 0) - (if u a = p then f a else 0)) k
theorem dw_w {t u : Nat → Nat} {f f2 : Nat → Int32} {r p : Nat} {δ : Int32} (e : f2 r = f r + δ) : ∀ k, (∀ a, a < k → a ≠ r → f2 a = f a) → dw t u f2 k p = dw t u f k p + (if r < k then ((if t r = p then δ else 0) - (if u r = p then δ else 0)) else 0)
  | 0, _ => rfl
  | k + 1, ne => by
    have ih := dw_w (t := t) (u := u) (p := p) e k (fun a ha => ne a (by omega))
    unfold dw at ih ⊢
    rw [fz, fz, ih]
    by_cases c : r = k
    · rw [if_neg (show ¬ r < k by omega), if_pos (show r < k + 1 by omega), ← c, e]
      by_cases z1 : t r = p <;> by_cases z2 : u r = p <;> simp only [z1, z2, if_true, if_false] <;> grind
    · rw [ne k (by omega) (fun z => c z.symm)]
      by_cases c2 : r < k
      · rw [if_pos c2, if_pos (show r < k + 1 by omega)]
        grind
      · rw [if_neg c2, if_neg (show ¬ r < k + 1 by omega)]
        grind
/-- what p gives: by arcs, and by its loan -/
def cq (g : LH) (k p : Nat) : Int32 := dw (tlv g) (hdv g) (fun a => rm g a 4) k p + g.1 271 (58 + p) * g.1 271 (65 + p)
/-- step i of the cycle goes from u to v -/
def GO (g : LH) (n k i u v : Nat) : Prop := (∃ a, a < k ∧ g.1 285 i = nI a ∧ ((g.1 286 i ≠ 0 ∧ tlv g a = u ∧ hdv g a = v) ∨ (g.1 286 i = 0 ∧ hdv g a = u ∧ tlv g a = v))) ∨ ∃ q, q < n ∧ g.1 285 i = nI (100 + q) ∧ (g.1 271 (58 + q) = 1 ∨ g.1 271 (58 + q) = -1) ∧ ((u = q ∧ v = n ∧ (g.1 286 i = 0 ↔ g.1 271 (58 + q) = -1)) ∨ (u = n ∧ v = q ∧ (g.1 286 i = 0 ↔ g.1 271 (58 + q) = 1)))
theorem cq_fl1 {dl : Int32} {i u v p : Nat} (n7 : n ≤ 7) (k14 : k ≤ 14) (G : GO g n k i u v) (hp : p < n) : cq (fl1 g dl i) k p = cq g k p + ((if u = p then dl else 0) - (if v = p then dl else 0)) := by
  unfold fl1
  rcases G with ⟨a, ha, ei, en⟩ | ⟨q, hq, ei, wy, en⟩
  · rw [ei, fx_a (by omega)]
    generalize eδ : (if g.1 286 i = 0 then -dl else dl) = δ
    have s : ∀ ix, ix ≠ 72 + 7 * a + 4 → (w1 g 271 (72 + 7 * a + 4) (g.1 271 (72 + 7 * a + 4) + δ)).1 271 ix = g.1 271 ix := fun ix hx => w1_at hx
    have sa : rm (w1 g 271 (72 + 7 * a + 4) (g.1 271 (72 + 7 * a + 4) + δ)) a 4 = rm g a 4 + δ := w1_eq
    generalize w1 g 271 (72 + 7 * a + 4) (g.1 271 (72 + 7 * a + 4) + δ) = g2 at *
    have e1 : tlv g2 = tlv g := funext fun b => by unfold tlv rm; rw [s _ (by omega)]
    have e2 : hdv g2 = hdv g := funext fun b => by unfold hdv rm; rw [s _ (by omega)]
    have up := dw_w (t := tlv g) (u := hdv g) (f := fun a => rm g a 4) (f2 := fun a => rm g2 a 4) (r := a) (p := p) (δ := δ) sa k (fun b hb hne => by
      show rm g2 b 4 = rm g b 4
      unfold rm
      exact s _ (by omega))
    unfold cq
    rw [e1, e2, up, if_pos ha, s _ (by omega), s _ (by omega)]
    rcases en with ⟨z, e3, e4⟩ | ⟨z, e3, e4⟩
    · rw [if_neg z] at eδ
      rw [e3, e4, ← eδ]
      grind
    · rw [if_pos z] at eδ
      rw [e3, e4, ← eδ]
      by_cases z1 : u = p <;> by_cases z2 : v = p <;> simp only [z1, z2, if_true, if_false] <;> grind
  · rw [ei, fx_p (by omega)]
    generalize eδ : (if g.1 286 i = 0 then -dl else dl) = δ
    have s : ∀ ix, ix ≠ 65 + q → (w1 g 271 (65 + q) (g.1 271 (65 + q) + δ)).1 271 ix = g.1 271 ix := fun ix hx => w1_at hx
    have sa : (w1 g 271 (65 + q) (g.1 271 (65 + q) + δ)).1 271 (65 + q) = g.1 271 (65 + q) + δ := w1_eq
    generalize w1 g 271 (65 + q) (g.1 271 (65 + q) + δ) = g2 at *
    have e0 : ∀ b w, rm g2 b w = rm g b w := fun b w => by unfold rm; exact s _ (by omega)
    have e1 : tlv g2 = tlv g := funext fun b => by unfold tlv; rw [e0]
    have e2 : hdv g2 = hdv g := funext fun b => by unfold hdv; rw [e0]
    have e3 : (fun a => rm g2 a 4) = (fun a => rm g a 4) := funext fun b => e0 b 4
    unfold cq
    rw [e1, e2, e3, s (58 + p) (by omega)]
    by_cases pq : p = q
    · subst pq
      rw [sa]
      have n1 : ¬ (1 : Int32) = -1 := by decide
      have n2 : ¬ (-1 : Int32) = 1 := by decide
      rcases en with ⟨z1, z2, z3⟩ | ⟨z1, z2, z3⟩
      · rw [if_pos z1, if_neg (by omega)]
        rcases wy with w | w
        · rw [if_neg (fun z => by have := z3.mp z; rw [w] at this; exact n1 this)] at eδ
          rw [w, ← eδ]
          grind
        · rw [if_pos (z3.mpr w)] at eδ
          rw [w, ← eδ]
          grind
      · rw [if_neg (by omega), if_pos z2]
        rcases wy with w | w
        · rw [if_pos (z3.mpr w)] at eδ
          rw [w, ← eδ]
          grind
        · rw [if_neg (fun z => by have := z3.mp z; rw [w] at this; exact n2 this)] at eδ
          rw [w, ← eδ]
          grind
    · rw [s (65 + p) (by omega)]
      rcases en with ⟨z1, z2, -⟩ | ⟨z1, z2, -⟩
      · rw [if_neg (by omega), if_neg (by omega)]
        grind
      · rw [if_neg (by omega), if_neg (by omega)]
        grind
theorem GO.fl {dl : Int32} {i j u v : Nat} (n7 : n ≤ 7) (k14 : k ≤ 14) (G : GO g n k i u v) {u2 v2 : Nat} (J : GO g n k j u2 v2) : GO (fl1 g dl i) n k j u2 v2 := by
  have ixf : (∃ a, a < k ∧ fx (g.1 285 i) = 72 + 7 * a + 4) ∨ ∃ q, q < n ∧ fx (g.1 285 i) = 65 + q := by
    rcases G with ⟨a, ha, ei, -⟩ | ⟨q, hq, ei, -⟩
    · exact Or.inl ⟨a, ha, by rw [ei]; exact fx_a (by omega)⟩
    · exact Or.inr ⟨q, hq, by rw [ei]; exact fx_p (by omega)⟩
  have s : ∀ ix, ix ≠ fx (g.1 285 i) → (fl1 g dl i).1 271 ix = g.1 271 ix := fun ix hx => w1_at hx
  have s5 : (fl1 g dl i).1 285 = g.1 285 := w1_ne (by decide)
  have s6 : (fl1 g dl i).1 286 = g.1 286 := w1_ne (by decide)
  generalize fl1 g dl i = g2 at *
  have e1 : tlv g2 = tlv g := funext fun b => by unfold tlv rm; rw [s _ (by rcases ixf with ⟨a, ha, e⟩ | ⟨q, hq, e⟩ <;> omega)]
  have e2 : hdv g2 = hdv g := funext fun b => by unfold hdv rm; rw [s _ (by rcases ixf with ⟨a, ha, e⟩ | ⟨q, hq, e⟩ <;> omega)]
  unfold GO at J ⊢
  rw [s5, s6, e1, e2]
  rcases J with J | ⟨q, hq, ei, wy, en⟩
  · exact Or.inl J
  · refine Or.inr ⟨q, hq, ei, ?_⟩
    rw [s (58 + q) (by rcases ixf with ⟨a, ha, e⟩ | ⟨q2, hq2, e⟩ <;> omega)]
    exact ⟨wy, en⟩
theorem cq_fls {dl : Int32} {p : Nat} {ν : Nat → Nat} (n7 : n ≤ 7) (k14 : k ≤ 14) (hp : p < n) : ∀ (f i : Nat) (g : LH), (∀ m, i ≤ m → m < i + f → GO g n k m (ν m) (ν (m + 1))) → cq (fls dl f i g) k p = cq g k p + ((if ν i = p then dl else 0) - (if ν (i + f) = p then dl else 0))
  | 0, i, g, _ => by
    rw [fls]
    have : i + 0 = i := rfl
    rw [this]
    grind
  | f + 1, i, g, G => by
    have G0 := G i (Nat.le_refl _) (by omega)
    rw [fls, cq_fls n7 k14 hp f (i + 1) (fl1 g dl i) (fun m h1 h2 => G0.fl n7 k14 (G m (by omega) (by omega))), cq_fl1 n7 k14 G0 hp, show i + 1 + f = i + (f + 1) by omega]
    grind
end VAC
