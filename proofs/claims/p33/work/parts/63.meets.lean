/-! ===== ways up the laid tree ===== -/
section RU
variable {g : LH} {n k d : Nat}
/-- a laid tree -/
def LT (g : LH) (n k : Nat) : Prop := RM g n k ∧ TI g n k ∧ ∀ p, p < n → ¬ g.1 281 p = -1
def uf (g : LH) (p : Nat) : Nat := (g.1 281 p).toNatClampNeg
def df (g : LH) (p : Nat) : Nat := (g.1 283 p).toNatClampNeg
theorem LT.at (T : LT g n k) {p : Nat} (hp : p < n) : g.1 281 p = nI (uf g p) ∧ uf g p ≤ n ∧ df g p = df g (uf g p) + 1 ∧ df g p ≤ 7 ∧ g.1 283 p = nI (df g p) ∧ EG g n k p (uf g p) (g.1 282 p) := by
  obtain ⟨H, TT, al⟩ := T
  have hn := H.1
  rcases TT.2 p hp with z | ⟨q, e, h1, h2, h3, h4, h5, h6, h7⟩
  · exact absurd z (al p hp)
  · have hc := ct_le (g := g) n
    have eu : uf g p = q := by unfold uf; rw [h3]; exact nI_clamp (by omega)
    have ed : df g p = e + 1 := by unfold df; rw [h5]; exact nI_clamp (by omega)
    have edq : df g q = e := by unfold df; rw [h6]; exact nI_clamp (by omega)
    rw [eu, ed, edq]
    exact ⟨h3, h2, rfl, by omega, h5, h7⟩
theorem LT.rt (T : LT g n k) : df g n = 0 ∧ g.1 283 n = nI 0 := by
  refine ⟨?_, T.2.1.1⟩
  unfold df
  rw [T.2.1.1]
  rfl
theorem LT.dp (T : LT g n k) {p : Nat} (hp : p ≤ n) : g.1 283 p = nI (df g p) ∧ df g p ≤ 7 := by
  by_cases e : p = n
  · subst e
    rw [T.rt.1]
    exact ⟨T.rt.2, by omega⟩
  · exact ⟨(T.at (show p < n by omega)).2.2.2.2.1, (T.at (show p < n by omega)).2.2.2.1⟩
theorem LT.lt (T : LT g n k) {p : Nat} (hp : p ≤ n) (hd : 0 < df g p) : p < n := by
  rcases Nat.lt_or_ge p n with z | z
  · exact z
  · have : p = n := by omega
    rw [this, T.rt.1] at hd
    omega
/-- j steps up -/
def tw (g : LH) : Nat → Nat → Nat
  | 0, x => x
  | j + 1, x => tw g j (uf g x)
theorem LT.tu (T : LT g n k) : ∀ (j x : Nat), x ≤ n → j ≤ df g x → tw g j x ≤ n ∧ df g (tw g j x) + j = df g x
  | 0, x, hx, _ => ⟨hx, rfl⟩
  | j + 1, x, hx, hj => by
    have hl := T.lt hx (by omega)
    obtain ⟨-, a2, a3, -⟩ := T.at hl
    obtain ⟨b1, b2⟩ := LT.tu T j (uf g x) a2 (by omega)
    refine ⟨b1, ?_⟩
    have b3 : tw g (j + 1) x = tw g j (uf g x) := rfl
    rw [b3]
    omega
/-- where two ways meet -/
def mt (g : LH) : Nat → Nat → Nat → Nat
  | 0, x, _ => x
  | f + 1, x, y => if x = y then x else if df g x < df g y then mt g f x (uf g y) else mt g f (uf g x) y
theorem mt_ok (T : LT g n k) : ∀ (f x y : Nat), x ≤ n → y ≤ n → df g x + df g y ≤ f → ∃ i j, i ≤ df g x ∧ j ≤ df g y ∧ mt g f x y = tw g i x ∧ mt g f x y = tw g j y ∧ ∀ i2 j2, i2 < i → j2 < j → tw g i2 x ≠ tw g j2 y
  | 0, x, y, hx, hy, hf => by
    have ex : x = n := by
      rcases Nat.lt_or_ge x n with z | z
      · have := (T.at z).2.2.1
        omega
      · omega
    have ey : y = n := by
      rcases Nat.lt_or_ge y n with z | z
      · have := (T.at z).2.2.1
        omega
      · omega
    exact ⟨0, 0, by omega, by omega, rfl, by rw [ey, ← ex]; rfl, fun i2 j2 h1 => absurd h1 (by omega)⟩
  | f + 1, x, y, hx, hy, hf => by
    rw [mt]
    by_cases e : x = y
    · rw [if_pos e]
      exact ⟨0, 0, by omega, by omega, rfl, e, fun i2 j2 h1 => absurd h1 (by omega)⟩
    · rw [if_neg e]
      by_cases c : df g x < df g y
      · rw [if_pos c]
        have hl := T.lt hy (by omega)
        obtain ⟨-, a2, a3, -⟩ := T.at hl
        obtain ⟨i, j, h1, h2, h3, h4, h5⟩ := mt_ok T f x (uf g y) hx a2 (by omega)
        refine ⟨i, j + 1, h1, by omega, h3, h4, fun i2 j2 hi hj => ?_⟩
        cases j2 with
        | zero =>
          intro z
          have := (T.tu i2 x hx (by omega)).2
          rw [z] at this
          have t0 : tw g 0 y = y := rfl
          rw [t0] at this
          omega
        | succ j3 => exact h5 i2 j3 hi (by omega)
      · rw [if_neg c]
        have hxp : 0 < df g x := by
          rcases Nat.eq_zero_or_pos (df g x) with z | z
          · exfalso
            have zx : x = n := by
              rcases Nat.lt_or_ge x n with w | w
              · have := (T.at w).2.2.1
                omega
              · omega
            have zy : y = n := by
              rcases Nat.lt_or_ge y n with w | w
              · have := (T.at w).2.2.1
                omega
              · omega
            omega
          · exact z
        have hl := T.lt hx hxp
        obtain ⟨-, a2, a3, -⟩ := T.at hl
        obtain ⟨i, j, h1, h2, h3, h4, h5⟩ := mt_ok T f (uf g x) y a2 hy (by omega)
        refine ⟨i + 1, j, by omega, h2, h3, h4, fun i2 j2 hi hj => ?_⟩
        cases i2 with
        | zero =>
          intro z
          have := (T.tu j2 y hy (by omega)).2
          rw [← z] at this
          have t0 : tw g 0 x = x := rfl
          rw [t0] at this
          have j0 : j2 = 0 := by omega
          rw [j0] at z
          exact e z
        | succ i3 => exact h5 i3 j2 (by omega) hj
theorem sx_mtL (T : LT g n k) {x1 x2 : Int32} {Q : tf_Q} : ∀ (f x y : Nat), x ≤ n → y ≤ n → df g x + df g y ≤ f → Q (.int (nI (mt g f x y))) g → lx_X9_meets 298 (tf_Cd 298 d) Q 5 [.ref 270, .int x1, .int x2, .int (nI x), .int (nI y)] [] g
  | 0, x, y, hx, hy, hf, q => by
    obtain ⟨i, j, h1, h2, h3, h4, -⟩ := mt_ok T 0 x y hx hy hf
    have e : x = y := by
      have i0 : i = 0 := by omega
      have j0 : j = 0 := by omega
      rw [i0] at h3
      rw [j0] at h4
      exact h3.symm.trans h4
    subst e
    exact go_X9_meets_5 (by decide) ⟨fun _ => go_X9_meets_49 (by decide) q, fun z => absurd rfl z⟩
  | f + 1, x, y, hx, hy, hf, q => by
    have hn := T.1.1
    have cx : (nI x).toNatClampNeg = x := nI_clamp (by omega)
    have cy : (nI y).toNatClampNeg = y := nI_clamp (by omega)
    have vx : vp_in (nI x) 8 := vi_of (by omega) (by omega)
    have vy : vp_in (nI y) 8 := vi_of (by omega) (by omega)
    obtain ⟨dx, bx⟩ := T.dp hx
    obtain ⟨dy, by'⟩ := T.dp hy
    rw [mt] at q
    refine go_X9_meets_5 (by decide) ⟨fun e => ?_, fun e => ?_⟩
    · have e2 : x = y := (nI_eq (by omega) (by omega)).mp e
      rw [if_pos e2] at q
      exact go_X9_meets_49 (by decide) q
    · have e2 : ¬ x = y := fun z => e (by rw [z])
      rw [if_neg e2] at q
      rw [cx, cy, dx, dy]
      refine ⟨vx, vy, fun c => ?_, fun c => ⟨vx, ?_⟩⟩
      · have c2 := (nI_ltI (by omega) (by omega)).mp c
        rw [if_pos c2] at q
        have hl := T.lt hy (by omega)
        obtain ⟨a1, a2, a3, -⟩ := T.at hl
        refine go_X9_meets_37 (by decide) ⟨vy, ?_⟩
        rw [cy, a1]
        exact sx_mtL T f x (uf g y) hx a2 (by omega) q
      · have c2 : ¬ df g x < df g y := fun z => c (nI_lt z (by omega))
        rw [if_neg c2] at q
        have hxp : 0 < df g x := by
          rcases Nat.eq_zero_or_pos (df g x) with z | z
          · exfalso
            have zx : x = n := by
              rcases Nat.lt_or_ge x n with w | w
              · have := (T.at w).2.2.1
                omega
              · omega
            have zy : y = n := by
              rcases Nat.lt_or_ge y n with w | w
              · have := (T.at w).2.2.1
                omega
              · omega
            omega
          · exact z
        have hl := T.lt hx hxp
        obtain ⟨a1, a2, a3, -⟩ := T.at hl
        rw [a1]
        exact sx_mtL T f (uf g x) y a2 hy (by omega) q
theorem sx_mt (T : LT g n k) {x y : Nat} (hx : x ≤ n) (hy : y ≤ n) : tf_Rt (d + 1) 39 [.ref 270, .int (nI x), .int (nI y)] g (.int (nI (mt g (df g x + df g y) x y))) g := fun _ q => en_X9_meets (by decide) (go_X9_meets_0 (by decide) (sx_mtL T _ x y hx hy (Nat.le_refl _) q))
end RU
