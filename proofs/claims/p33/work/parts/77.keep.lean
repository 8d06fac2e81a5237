/-! ===== the cycle's steps differ; what flows along it ===== -/
section RK7
variable {g : LH} {n k : Nat}
theorem lvx_or {dl : Int32} : ∀ (f i : Nat) (l : Int32), lvx g dl f i l = l ∨ ∃ j, i ≤ j ∧ j < i + f ∧ rr g j = dl ∧ lvx g dl f i l = nI j
  | 0, _, _ => Or.inl rfl
  | f + 1, i, l => by
    rw [lvx]
    rcases lvx_or f (i + 1) (if rr g i = dl then nI i else l) with z | ⟨j, h1, h2, h3, h4⟩
    · by_cases e : rr g i = dl
      · rw [if_pos e] at z ⊢
        exact Or.inr ⟨i, Nat.le_refl _, by omega, e, z⟩
      · rw [if_neg e] at z ⊢
        exact Or.inl z
    · exact Or.inr ⟨j, by omega, by omega, h3, h4⟩
theorem gd_lo {x : Nat} : ∀ (i c : Nat) (g : LH), (gd c i x g).1 281 = g.1 281 ∧ (gd c i x g).1 282 = g.1 282 ∧ (gd c i x g).1 271 = g.1 271
  | 0, _, _ => ⟨rfl, rfl, rfl⟩
  | i + 1, c, g => by
    rw [gd]
    obtain ⟨z1, z2, z3⟩ := gd_lo (x := x) i (c + 1) (as1 g c (g.1 282 (tw g i x)) (g.1 281 (tw g i x)))
    exact ⟨z1.trans as_281, z2.trans as_282, z3.trans (as1_lo.1 271 (by decide) (by decide) (by decide))⟩
theorem lc2_lo {x y : Nat} : (lc_2 g x y).1 281 = g.1 281 ∧ (lc_2 g x y).1 282 = g.1 282 ∧ (lc_2 g x y).1 271 = g.1 271 := by
  unfold lc_2
  obtain ⟨z1, z2, z3⟩ := gd_lo (x := x) (df g x - df g (lc_z g x y)) 0 (lc_1 g x y)
  refine ⟨z1.trans ?_, z2.trans ?_, z3.trans ?_⟩
  · unfold lc_1; rw [w1_ne (by decide), w1_ne (by decide)]
  · unfold lc_1; rw [w1_ne (by decide), w1_ne (by decide)]
  · unfold lc_1; rw [w1_ne (by decide), w1_ne (by decide)]
theorem lc3_lo {a x y : Nat} : (lc_3 g a x y).1 281 = g.1 281 ∧ (lc_3 g a x y).1 282 = g.1 282 := by
  unfold lc_3
  exact ⟨as_281.trans lc2_lo.1, as_282.trans lc2_lo.2.1⟩
/-- each step, place by place -/
theorem lc_pos {a x y m : Nat} (hm : m < lc_n g x y) : (m < df g x - df g (lc_z g x y) ∧ (lc g a x y).1 285 m = g.1 282 (tw g (df g x - df g (lc_z g x y) - 1 - m) x)) ∨ (m = df g x - df g (lc_z g x y) ∧ (lc g a x y).1 285 m = nI a) ∨ ∃ j0, m = df g x - df g (lc_z g x y) + 1 + j0 ∧ j0 < df g y - df g (lc_z g x y) ∧ (lc g a x y).1 285 m = g.1 282 (tw g j0 y) := by
  unfold lc_n at hm
  rcases Nat.lt_trichotomy m (df g x - df g (lc_z g x y)) with z | z | z
  · refine Or.inl ⟨z, ?_⟩
    unfold lc
    rw [(gu_ids (df g y - df g (lc_z g x y)) (df g x - df g (lc_z g x y) + 1) y (lc_3 g a x y)).1 m (by omega)]
    unfold lc_3
    rw [as_285, if_neg (by omega)]
    unfold lc_2
    have := gd_at (df g x - df g (lc_z g x y)) 0 x m (lc_1 g x y) z
    rw [Nat.zero_add] at this
    rw [this]
    have q1 : (lc_1 g x y).1 281 = g.1 281 := by unfold lc_1; rw [w1_ne (by decide), w1_ne (by decide)]
    have q2 : (lc_1 g x y).1 282 = g.1 282 := by unfold lc_1; rw [w1_ne (by decide), w1_ne (by decide)]
    rw [q2, tw_same q1]
  · refine Or.inr (Or.inl ⟨z, ?_⟩)
    rw [z]
    exact lc_at
  · refine Or.inr (Or.inr ⟨m - (df g x - df g (lc_z g x y) + 1), by omega, by omega, ?_⟩)
    have := gu_at (df g y - df g (lc_z g x y)) (df g x - df g (lc_z g x y) + 1) y (m - (df g x - df g (lc_z g x y) + 1)) (lc_3 g a x y) (by omega)
    rw [show df g x - df g (lc_z g x y) + 1 + (m - (df g x - df g (lc_z g x y) + 1)) = m by omega] at this
    unfold lc
    rw [this, lc3_lo.2, tw_same lc3_lo.1]
theorem lc_branch (T : LT g n k) {x y : Nat} (hx : x ≤ n) (hy : y ≤ n) : ∃ i j, df g x - df g (lc_z g x y) = i ∧ df g y - df g (lc_z g x y) = j ∧ i ≤ df g x ∧ j ≤ df g y ∧ tw g i x = tw g j y ∧ ∀ i2 j2, i2 < i → j2 < j → tw g i2 x ≠ tw g j2 y := by
  obtain ⟨i, j, hi, hj, ei, ej, dis⟩ := mt_ok T _ x y hx hy (Nat.le_refl _)
  have ti := T.tu i x hx hi
  have tj := T.tu j y hy hj
  have ez : lc_z g x y = tw g i x := ei
  have ez2 : lc_z g x y = tw g j y := ej
  rw [← ez] at ti
  rw [← ez2] at tj
  exact ⟨i, j, by omega, by omega, hi, hj, ez.symm.trans ez2, dis⟩
theorem by_nea (T : LT g n k) {a p : Nat} (ha : a < k) (ho : rf_off g a = true) (hp : p < n) : g.1 282 p ≠ nI a := by
  have hn := T.1.1
  intro e
  obtain ⟨-, -, -, -, -, E⟩ := T.at hp
  rcases E with ⟨-, e2, -⟩ | ⟨-, b, hb, e2, hh, -⟩
  · have := (nI_eq (by omega) (by omega)).mp (e2.symm.trans e)
    omega
  · have hba : b = a := (nI_eq (by omega) (by omega)).mp (e2.symm.trans e)
    rw [hba] at hh
    unfold rf_hangs at hh
    have h2 := of_decide_eq_true hh
    rcases off_w ho with z | z
    · rw [z] at h2
      exact absurd h2 (by decide)
    · rw [z] at h2
      exact absurd h2 (by decide)
theorem lc_inj (T : LT g n k) {a x y m1 m2 : Nat} (ha : a < k) (hx : x ≤ n) (hy : y ≤ n) (ho : rf_off g a = true) (h1 : m1 < lc_n g x y) (h2 : m2 < lc_n g x y) (e : (lc g a x y).1 285 m1 = (lc g a x y).1 285 m2) : m1 = m2 := by
  obtain ⟨i, j, ei, ej, hi, hj, ez, dis⟩ := lc_branch T hx hy
  have p1 := lc_pos (a := a) h1
  have p2 := lc_pos (a := a) h2
  rw [ei, ej] at p1 p2
  have ln : lc_n g x y = i + 1 + j := by unfold lc_n; rw [ei, ej]
  rcases p1 with ⟨l1, e1⟩ | ⟨l1, e1⟩ | ⟨j1, l1, r1, e1⟩ <;> rcases p2 with ⟨l2, e2⟩ | ⟨l2, e2⟩ | ⟨j2, l2, r2, e2⟩
  · have b := by_inj T (on_lt T hx hi (show i - 1 - m1 < i by omega)) (on_lt T hx hi (show i - 1 - m2 < i by omega)) (e1.symm.trans (e.trans e2))
    have := tw_inj T hx hi (show i - 1 - m1 < i by omega) (show i - 1 - m2 < i by omega) b
    omega
  · exact absurd (e1.symm.trans (e.trans e2)) (by_nea T ha ho (on_lt T hx hi (show i - 1 - m1 < i by omega)))
  · have b := by_inj T (on_lt T hx hi (show i - 1 - m1 < i by omega)) (on_lt T hy hj r2) (e1.symm.trans (e.trans e2))
    exact absurd b (dis _ _ (by omega) r2)
  · exact absurd (e2.symm.trans (e.symm.trans e1)) (by_nea T ha ho (on_lt T hx hi (show i - 1 - m2 < i by omega)))
  · omega
  · exact absurd (e2.symm.trans (e.symm.trans e1)) (by_nea T ha ho (on_lt T hy hj r2))
  · have b := by_inj T (on_lt T hx hi (show i - 1 - m2 < i by omega)) (on_lt T hy hj r1) (e2.symm.trans (e.symm.trans e1))
    exact absurd b (dis _ _ (by omega) r1)
  · exact absurd (e1.symm.trans (e.trans e2)) (by_nea T ha ho (on_lt T hy hj r1))
  · have b := by_inj T (on_lt T hy hj r1) (on_lt T hy hj r2) (e1.symm.trans (e.trans e2))
    have := tw_inj T hy hj r1 r2 b
    omega
/-- an edge of this grid: an arc below k, or a loan of a point below n -/
def ED (n k : Nat) (id : Int32) : Prop := (∃ a, a < k ∧ id = nI a) ∨ ∃ p, p < n ∧ id = nI (100 + p)
theorem by_ed (T : LT g n k) {p : Nat} (hp : p < n) : ED n k (g.1 282 p) := by
  obtain ⟨-, -, -, -, -, E⟩ := T.at hp
  rcases E with ⟨-, e, -⟩ | ⟨-, b, hb, e, -⟩
  · exact Or.inr ⟨p, hp, e⟩
  · exact Or.inl ⟨b, hb, e⟩
theorem lc_ed (T : LT g n k) {a x y m : Nat} (ha : a < k) (hx : x ≤ n) (hy : y ≤ n) (hm : m < lc_n g x y) : ED n k ((lc g a x y).1 285 m) := by
  obtain ⟨i, j, ei, ej, hi, hj, -, -⟩ := lc_branch T hx hy
  have p1 := lc_pos (a := a) hm
  rw [ei, ej] at p1
  rcases p1 with ⟨l1, e1⟩ | ⟨l1, e1⟩ | ⟨j1, l1, r1, e1⟩
  · rw [e1]
    exact by_ed T (on_lt T hx hi (by omega))
  · exact Or.inl ⟨a, ha, e1⟩
  · rw [e1]
    exact by_ed T (on_lt T hy hj r1)
/-- an arc in the cycle, but the one that enters, hangs -/
theorem lc_hang (T : LT g n k) {a x y m b : Nat} (ha : a < k) (hx : x ≤ n) (hy : y ≤ n) (hm : m < lc_n g x y) (hb : b < k) (e : (lc g a x y).1 285 m = nI b) (hne : b ≠ a) : rf_hangs g b = true := by
  have hn := T.1.1
  obtain ⟨i, j, ei, ej, hi, hj, -, -⟩ := lc_branch T hx hy
  have p1 := lc_pos (a := a) hm
  rw [ei, ej] at p1
  have key : ∀ p, p < n → g.1 282 p = nI b → rf_hangs g b = true := by
    intro p hp ep
    obtain ⟨-, -, -, -, -, E⟩ := T.at hp
    rcases E with ⟨-, e2, -⟩ | ⟨-, b2, hb2, e2, hh, -⟩
    · have := (nI_eq (by omega) (by omega)).mp (e2.symm.trans ep)
      omega
    · have : b2 = b := (nI_eq (by omega) (by omega)).mp (e2.symm.trans ep)
      rw [← this]
      exact hh
  rcases p1 with ⟨l1, e1⟩ | ⟨l1, e1⟩ | ⟨j1, l1, r1, e1⟩
  · exact key _ (on_lt T hx hi (by omega)) (e1.symm.trans e)
  · exact absurd ((nI_eq (by omega) (by omega)).mp (e.symm.trans e1)) hne
  · exact key _ (on_lt T hy hj r1) (e1.symm.trans e)
theorem fx_a {a : Nat} (ha : a < 14) : fx (nI a) = 72 + 7 * a + 4 := by
  unfold fx
  rw [loan_a ha, if_neg Bool.false_ne_true, nI_clamp (by omega)]
theorem fx_p {p : Nat} (hp : p < 7) : fx (nI (100 + p)) = 65 + p := by
  unfold fx
  rw [loan_p hp, if_pos rfl, ix65, nI_clamp (by omega)]
theorem fx_inj (hn : n ≤ 7) (hk : k ≤ 14) {x y : Int32} (hx : ED n k x) (hy : ED n k y) (e : fx x = fx y) : x = y := by
  rcases hx with ⟨a, ha, ea⟩ | ⟨p, hp, ep⟩ <;> rcases hy with ⟨b, hb, eb⟩ | ⟨q, hq, eq⟩
  · rw [ea, eb, fx_a (by omega), fx_a (by omega)] at e
    rw [ea, eb, show a = b by omega]
  · rw [ea, eq, fx_a (by omega), fx_p (by omega)] at e
    omega
  · rw [ep, eb, fx_p (by omega), fx_a (by omega)] at e
    omega
  · rw [ep, eq, fx_p (by omega), fx_p (by omega)] at e
    rw [ep, eq, show p = q by omega]
/-- what stands at a place of the row after the flows -/
theorem fls_out {dl : Int32} {ix : Nat} : ∀ (f i : Nat) (g : LH), (∀ m, i ≤ m → m < i + f → fx (g.1 285 m) ≠ ix) → (fls dl f i g).1 271 ix = g.1 271 ix
  | 0, _, _, _ => rfl
  | f + 1, i, g, hne => by
    rw [fls]
    have e285 : (fl1 g dl i).1 285 = g.1 285 := by unfold fl1; rw [w1_ne (by decide)]
    rw [fls_out f (i + 1) (fl1 g dl i) (fun m h1 h2 => by rw [e285]; exact hne m (by omega) (by omega))]
    unfold fl1
    rw [w1_at (fun z => hne i (Nat.le_refl _) (by omega) z.symm)]
theorem fls_at {dl : Int32} {m : Nat} : ∀ (f i : Nat) (g : LH), i ≤ m → m < i + f → (∀ m2, i ≤ m2 → m2 < i + f → fx (g.1 285 m2) = fx (g.1 285 m) → m2 = m) → (fls dl f i g).1 271 (fx (g.1 285 m)) = g.1 271 (fx (g.1 285 m)) + (if g.1 286 m = 0 then -dl else dl)
  | 0, i, g, h1, h2, _ => absurd h2 (by omega)
  | f + 1, i, g, h1, h2, hd => by
    rw [fls]
    have e285 : (fl1 g dl i).1 285 = g.1 285 := by unfold fl1; rw [w1_ne (by decide)]
    have e286 : (fl1 g dl i).1 286 = g.1 286 := by unfold fl1; rw [w1_ne (by decide)]
    by_cases e : i = m
    · subst e
      have := fls_out (dl := dl) (ix := fx (g.1 285 i)) f (i + 1) (fl1 g dl i) (fun m2 h3 h4 => by
        rw [e285]
        intro z
        have := hd m2 (by omega) (by omega) z
        omega)
      rw [this]
      unfold fl1
      rw [w1_eq]
    · have := fls_at (dl := dl) (m := m) f (i + 1) (fl1 g dl i) (by omega) (by omega) (fun m2 h3 h4 h5 => by
        rw [e285] at h5
        exact hd m2 (by omega) (by omega) h5)
      rw [e285, e286] at this
      rw [this]
      have ne : fx (g.1 285 m) ≠ fx (g.1 285 i) := fun z => e (hd i (Nat.le_refl _) (by omega) z.symm)
      unfold fl1
      rw [w1_at ne]
theorem as_286 {c m : Nat} {id fr : Int32} : (as1 g c id fr).1 286 m = if m = c then bI (rf_al g id fr) else g.1 286 m := by
  unfold as1
  rw [w1_ne (by decide), bI_nar]
  by_cases e : m = c
  · rw [if_pos e, e, w1_eq]
  · rw [if_neg e, w1_at e, w1_ne (by decide)]
theorem gu_286 : ∀ (j c y : Nat) (g : LH), ∀ m, m < c → (gu c j y g).1 286 m = g.1 286 m
  | 0, _, _, _, _, _ => rfl
  | j + 1, c, y, g, m, hm => by
    rw [gu, gu_286 j (c + 1) (uf g y) _ m (by omega), as_286, if_neg (by omega)]
/-- whether the arc itself goes along -/
theorem lc_al {a x y : Nat} (ha : a < 14) : (lc g a x y).1 286 (df g x - df g (lc_z g x y)) = bI (decide (rm g a 0 = nI x)) := by
  unfold lc
  rw [gu_286 _ _ _ _ _ (by omega)]
  unfold lc_3
  rw [as_286, if_pos rfl]
  unfold rf_al
  rw [loan_a ha, if_neg Bool.false_ne_true, nI_clamp (by omega)]
  unfold rm
  rw [lc2_lo.2.2]
end RK7
