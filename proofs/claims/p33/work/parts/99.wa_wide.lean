/-! ===== the row of the trial: bounds, costs, supplies up to 100 ===== -/
section WS1
variable {g : LH} {n k : Nat}
/-- arcs that do not hang are empty or full; bounds stand in 0 to 99 -/
def FBW (g : LH) (k : Nat) : Prop := ∀ a, a < k → vp_in (rm g a 2) 101 ∧ (rm g a 5 = 0 → rm g a 4 = 0) ∧ (rm g a 5 = 1 → rm g a 4 = rm g a 2)
theorem lc_leastW (T : LT g n k) (B : FBW g k) {a x y : Nat} (ha : a < k) (hx : x ≤ n) (hy : y ≤ n) (ho : rf_off g a = true) : ∃ j, j < lc_n g x y ∧ rr (lc g a x y) j = rlr (lc g a x y) (lc_n g x y) 0 1000000 := by
  have hn := T.1.1
  obtain ⟨-, F, -, -, -, -⟩ := lc_ok T ha hx hy
  have r : ∀ w, rm (lc g a x y) a w = rm g a w := fun w => by
    unfold rm
    rw [F.1 271 (by decide) (by decide) (by decide)]
  obtain ⟨b1, b2, b3⟩ := B a ha
  obtain ⟨bd, hbd, eb⟩ := vi_nI b1
  have hat := lc_at (g := g) (a := a) (x := x) (y := y)
  have hlt : rr (lc g a x y) (df g x - df g (lc_z g x y)) < 1000000 := by
    unfold rr
    rw [hat, loan_a (by omega), if_neg Bool.false_ne_true, nI_clamp (by omega), r, r]
    have m1 : nI bd < 1000000 := nI_lt (b := 1000000) (by omega) (by omega)
    have m0 : (0 : Int32) < 1000000 := by decide
    rcases off_w ho with z | z
    · rw [b2 z]
      split
      · exact m0
      · rw [eb, Int32.sub_zero]
        exact m1
    · rw [b3 z]
      split
      · rw [eb]
        exact m1
      · rw [Int32.sub_self]
        exact m0
  have hle := (rlr_le (g := lc g a x y) (lc_n g x y) 0 1000000).2 (df g x - df g (lc_z g x y)) (Nat.zero_le _) (by unfold lc_n; omega)
  rcases rlr_or (g := lc g a x y) (lc_n g x y) 0 1000000 with z | ⟨j, h1, h2, h3⟩
  · rw [z] at hle
    exact absurd hlt (Int32.not_lt.mpr hle)
  · exact ⟨j, by omega, h3⟩
end WS1
section WS2
variable {g : LH} {n k M : Nat}
/-- arcs and supplies in their ranges -/
def AGW (g : LH) (n k : Nat) : Prop := (∀ a, a < k → rm g a 0 ≠ rm g a 1) ∧ (∀ a, a < k → ∃ v b, v ≤ b ∧ b < 101 ∧ rm g a 4 = nI v ∧ rm g a 2 = nI b) ∧ (∀ a, a < k → ∃ c, c ≤ 199 ∧ rm g a 3 + 99 = nI c) ∧ (∀ p, p < n → ∃ s, s ≤ 200 ∧ g.1 271 (44 + p) + 100 = nI s)
/-- debts: M tells how many pivots there were -/
def DBW (g : LH) (n M : Nat) : Prop := ∀ p, p < n → ∃ v, v ≤ 2000 + 100 * M ∧ g.1 271 (65 + p) = nI v ∧ (g.1 271 (58 + p) = 1 ∨ g.1 271 (58 + p) = -1)
def GIW (g : LH) (n k M : Nat) : Prop := RM g n k ∧ CP g n k ∧ RS g ∧ FBW g k ∧ AGW g n k ∧ DBW g n M ∧ GN g
theorem GIW.mono {M2 : Nat} (G : GIW g n k M) (h : M ≤ M2) : GIW g n k M2 := ⟨G.1, G.2.1, G.2.2.1, G.2.2.2.1, G.2.2.2.2.1, fun p hp => by
  obtain ⟨v, hv, e⟩ := G.2.2.2.2.2.1 p hp
  exact ⟨v, by omega, e⟩, G.2.2.2.2.2.2⟩
/-- the grid is all in the first 170 numbers of the row -/
theorem GIW.cong {h : LH} (G : GIW h n k M) (e : ∀ i, i < 170 → g.1 271 i = h.1 271 i) : GIW g n k M := by
  obtain ⟨R, C, S, B, ⟨A1, A2, A3, A4⟩, D, N⟩ := G
  have hn := R.1
  have er : ∀ a w, a < k → w < 7 → rm g a w = rm h a w := fun a w ha hw => e _ (by omega)
  have eh : ∀ a, a < k → rf_hangs g a = rf_hangs h a := fun a ha => by
    unfold rf_hangs
    rw [er a 5 ha (by omega)]
  refine ⟨⟨R.1, by rw [e 0 (by omega)]; exact R.2.1, by rw [e 1 (by omega)]; exact R.2.2.1, fun a ha => by rw [er a 0 ha (by omega), er a 1 ha (by omega)]; exact R.2.2.2 a ha⟩, ?_, ?_, fun a ha => by rw [er a 2 ha (by omega), er a 5 ha (by omega), er a 4 ha (by omega)]; exact B a ha, ⟨fun a ha => by rw [er a 0 ha (by omega), er a 1 ha (by omega)]; exact A1 a ha, fun a ha => by rw [er a 4 ha (by omega), er a 2 ha (by omega)]; exact A2 a ha, fun a ha => by rw [er a 3 ha (by omega)]; exact A3 a ha, fun p hp => by rw [e _ (by omega)]; exact A4 p hp⟩, fun p hp => by rw [e (65 + p) (by omega), e (58 + p) (by omega)]; exact D p hp, by unfold GN; rw [e 7 (by omega)]; exact N⟩
  · intro S hS hex
    rcases C S hS hex with ⟨p, h1, h2, h3⟩ | ⟨a, p, q, h1, h2, h3, h4, h5, h6, h7⟩
    · exact Or.inl ⟨p, h1, h2, by rw [e _ (by omega)]; exact h3⟩
    · exact Or.inr ⟨a, p, q, h1, by rw [eh a h1]; exact h2, h3, h4, h5, h6, by rw [er a 0 h1 (by omega), er a 1 h1 (by omega)]; exact h7⟩
  · unfold RS
    rw [e 6 (by omega)]
    exact S
/-- the rooms as numbers -/
theorem lc_roomW (T : LT g n k) (A : AGW g n k) (D : DBW g n M) (hM : M ≤ 20000000) {a x y i : Nat} (ha : a < k) (hx : x ≤ n) (hy : y ≤ n) (hi : i < lc_n g x y) : (∃ b, b < k ∧ (lc g a x y).1 285 i = nI b ∧ ∃ v bd, v ≤ bd ∧ bd < 101 ∧ rm g b 4 = nI v ∧ rm g b 2 = nI bd ∧ rr (lc g a x y) i = nI (if (lc g a x y).1 286 i = 0 then v else bd - v)) ∨ ∃ p, p < n ∧ (lc g a x y).1 285 i = nI (100 + p) ∧ ∃ v, v ≤ 2000 + 100 * M ∧ g.1 271 (65 + p) = nI v ∧ rr (lc g a x y) i = nI (if (lc g a x y).1 286 i = 0 then v else 1000000) := by
  have hn := T.1.1
  have e271 := lc_271 T ha hx hy
  have r : ∀ b w, rm (lc g a x y) b w = rm g b w := fun b w => by unfold rm; rw [e271]
  rcases lc_ed T ha hx hy hi with ⟨b, hb, eb⟩ | ⟨p, hp, ep⟩
  · obtain ⟨v, bd, h1, h2, h3, h4⟩ := A.2.1 b hb
    refine Or.inl ⟨b, hb, eb, v, bd, h1, h2, h3, h4, ?_⟩
    unfold rr
    rw [eb, loan_a (by omega), if_neg Bool.false_ne_true, nI_clamp (by omega), r, r, h3, h4, nI_sub h1]
    split <;> rfl
  · obtain ⟨v, h1, h2, -⟩ := D p hp
    refine Or.inr ⟨p, hp, ep, v, h1, h2, ?_⟩
    unfold rr
    rw [ep, loan_p (by omega), if_pos rfl, ix65, nI_clamp (by omega), e271, h2]
    split <;> rfl
/-- how much flows: at most 99, and nowhere more than the room -/
theorem lc_dlW (T : LT g n k) (A : AGW g n k) (D : DBW g n M) (hM : M ≤ 20000000) {a x y m : Nat} (ha : a < k) (hx : x ≤ n) (hy : y ≤ n) (hm : m < lc_n g x y) (er : rr (lc g a x y) m = rlr (lc g a x y) (lc_n g x y) 0 1000000) : ∃ dl, dl ≤ 100 ∧ rlr (lc g a x y) (lc_n g x y) 0 1000000 = nI dl ∧ ∀ i r, i < lc_n g x y → r < 2 ^ 31 → rr (lc g a x y) i = nI r → dl ≤ r := by
  have rm1 : ∃ r, r < 2 ^ 31 ∧ rr (lc g a x y) m = nI r := by
    rcases lc_roomW T A D hM ha hx hy hm with ⟨b, -, -, v, bd, h1, h2, -, -, h5⟩ | ⟨p, -, -, v, h1, -, h3⟩
    · exact ⟨_, by split <;> omega, h5⟩
    · exact ⟨_, by split <;> omega, h3⟩
  obtain ⟨dl, hdl, e⟩ := rm1
  have eq : rlr (lc g a x y) (lc_n g x y) 0 1000000 = nI dl := er.symm.trans e
  have all : ∀ i r, i < lc_n g x y → r < 2 ^ 31 → rr (lc g a x y) i = nI r → dl ≤ r := by
    intro i r hi hr e2
    have := (rlr_le (g := lc g a x y) (lc_n g x y) 0 1000000).2 i (Nat.zero_le _) (by omega)
    rw [eq, e2] at this
    exact (nI_leI hdl hr).mp this
  refine ⟨dl, ?_, eq, all⟩
  have hI : df g x - df g (lc_z g x y) < lc_n g x y := by unfold lc_n; omega
  have hn := T.1.1
  rcases lc_roomW T A D hM ha hx hy hI with ⟨b, -, -, v, bd, h1, h2, -, -, h5⟩ | ⟨p, hp, h0, -⟩
  · have := all _ _ hI (by split <;> omega) h5
    split at this <;> omega
  · have := (nI_eq (by omega) (by omega)).mp (h0.symm.trans lc_at)
    omega
/-- arcs after the flows -/
theorem tn3_arcW (T : LT g n k) (A : AGW g n k) (D : DBW g n M) (hM : M ≤ 20000000) {a x y m : Nat} (ha : a < k) (hx : x ≤ n) (hy : y ≤ n) (ho : rf_off g a = true) (hm : m < lc_n g x y) (er : rr (lc g a x y) m = rlr (lc g a x y) (lc_n g x y) 0 1000000) (ex : (if rm g a 5 = 0 then rm g a 0 else rm g a 1) = nI x) {b : Nat} (hb : b < k) : ∃ v bd, v ≤ bd ∧ bd < 101 ∧ rm (tn3 g a x y) b 4 = nI v ∧ rm g b 2 = nI bd ∧ ((lc g a x y).1 285 m = nI b → v = 0 ∨ v = bd) ∧ (rm g b 5 ≠ 2 → b ≠ a → rm (tn3 g a x y) b 4 = rm g b 4) ∧ (b = a → (lc g a x y).1 285 m = nI a → rm g a 0 ≠ rm g a 1 → FBW g k → (rm g a 5 = 0 → v = bd) ∧ (rm g a 5 = 1 → v = 0)) := by
  have hn := T.1.1
  have e271 := lc_271 T ha hx hy
  obtain ⟨dl, hdl, edl, all⟩ := lc_dlW T A D hM ha hx hy hm er
  obtain ⟨v, bd, h1, h2, h3, h4⟩ := A.2.1 b hb
  have hinj : ∀ m1 m2, m1 < lc_n g x y → m2 < lc_n g x y → fx ((lc g a x y).1 285 m1) = fx ((lc g a x y).1 285 m2) → m1 = m2 := fun m1 m2 q1 q2 e => lc_inj T ha hx hy ho q1 q2 (fx_inj hn.2.1 hn.2.2 (lc_ed T ha hx hy q1) (lc_ed T ha hx hy q2) e)
  by_cases hc : ∃ i, i < lc_n g x y ∧ (lc g a x y).1 285 i = nI b
  · obtain ⟨i, hi, ei⟩ := hc
    have fi : fx ((lc g a x y).1 285 i) = 72 + 7 * b + 4 := by rw [ei]; exact fx_a (by omega)
    have val := fls_at (dl := nI dl) (m := i) (lc_n g x y) 0 (lc g a x y) (Nat.zero_le _) (by omega) (fun m2 _ q2 e => hinj m2 i (by omega) hi e)
    rw [fi, e271] at val
    have val2 : rm (tn3 g a x y) b 4 = rm g b 4 + (if (lc g a x y).1 286 i = 0 then -nI dl else nI dl) := by
      unfold tn3
      rw [edl]
      exact val
    have hroom : rr (lc g a x y) i = nI (if (lc g a x y).1 286 i = 0 then v else bd - v) := by
      rcases lc_roomW T A D hM ha hx hy hi with ⟨b2, hb2, q0, v2, bd2, q1, q2, q3, q4, q5⟩ | ⟨p, hp, q0, -⟩
      · have : b2 = b := (nI_eq (by omega) (by omega)).mp (q0.symm.trans ei)
        subst this
        have ev : v2 = v := (nI_eq (by omega) (by omega)).mp (q3.symm.trans h3)
        have eb : bd2 = bd := (nI_eq (by omega) (by omega)).mp (q4.symm.trans h4)
        rw [← ev, ← eb]
        exact q5
      · have := (nI_eq (by omega) (by omega)).mp (q0.symm.trans ei)
        omega
    have le := all i _ hi (by split <;> omega) hroom
    have mi : (lc g a x y).1 285 m = nI b → m = i := fun e => lc_inj T ha hx hy ho hm hi (e.trans ei.symm)
    have eqm : (lc g a x y).1 285 m = nI b → dl = (if (lc g a x y).1 286 i = 0 then v else bd - v) := by
      intro e
      have z := mi e
      rw [z, edl, hroom] at er
      exact ((nI_eq (by split <;> omega) (by omega)).mp er).symm
    by_cases c : (lc g a x y).1 286 i = 0
    · rw [if_pos c] at val2 le eqm
      rw [h3, nI_subneg le] at val2
      refine ⟨v - dl, bd, by omega, h2, val2, h4, fun e => Or.inl (by have := eqm e; omega), fun q1 q2 => ?_, fun q1 q2 q3 q4 => ⟨fun q5 => ?_, fun q5 => ?_⟩⟩
      · have hh := lc_hang T ha hx hy hi hb ei q2
        unfold rf_hangs at hh
        exact absurd (of_decide_eq_true hh) q1
      · exfalso
        have hII : i = df g x - df g (lc_z g x y) := lc_inj T ha hx hy ho hi (by unfold lc_n; omega) (ei.trans (by rw [q1]; exact lc_at.symm))
        have al := lc_al (g := g) (a := a) (x := x) (y := y) (by omega)
        rw [← hII, c] at al
        have al2 : decide (rm g a 0 = nI x) = false := bI_0.mp al.symm
        rw [if_pos q5] at ex
        rw [decide_eq_true ex] at al2
        cases al2
      · have e := eqm (q2.trans (by rw [q1]))
        omega
    · rw [if_neg c] at val2 le eqm
      rw [h3, nI_add] at val2
      refine ⟨v + dl, bd, by omega, h2, val2, h4, fun e => Or.inr (by have := eqm e; omega), fun q1 q2 => ?_, fun q1 q2 q3 q4 => ⟨fun q5 => ?_, fun q5 => ?_⟩⟩
      · have hh := lc_hang T ha hx hy hi hb ei q2
        unfold rf_hangs at hh
        exact absurd (of_decide_eq_true hh) q1
      · have e := eqm (q2.trans (by rw [q1]))
        omega
      · exfalso
        have hII : i = df g x - df g (lc_z g x y) := lc_inj T ha hx hy ho hi (by unfold lc_n; omega) (ei.trans (by rw [q1]; exact lc_at.symm))
        have al := lc_al (g := g) (a := a) (x := x) (y := y) (by omega)
        rw [← hII] at al
        have al2 : decide (rm g a 0 = nI x) = true := by
          cases z : decide (rm g a 0 = nI x) with
          | true => rfl
          | false => rw [z] at al; exact absurd al c
        rw [if_neg (by rw [q5]; decide)] at ex
        exact q3 ((of_decide_eq_true al2).trans ex.symm)
  · have val := fls_out (dl := nI dl) (ix := 72 + 7 * b + 4) (lc_n g x y) 0 (lc g a x y) (fun m2 _ q2 e => hc ⟨m2, by omega, by
      rcases lc_ed T ha hx hy (show m2 < lc_n g x y by omega) with ⟨b2, hb2, eb⟩ | ⟨p, hp, ep⟩
      · rw [eb, fx_a (by omega)] at e
        rw [eb, show b2 = b by omega]
      · rw [ep, fx_p (by omega)] at e
        omega⟩)
    rw [e271] at val
    have val2 : rm (tn3 g a x y) b 4 = rm g b 4 := by
      unfold tn3
      rw [edl]
      exact val
    refine ⟨v, bd, h1, h2, val2.trans h3, h4, fun e => absurd ⟨m, hm, e⟩ hc, fun _ _ => val2, fun q1 q2 => absurd ⟨m, hm, q2.trans (by rw [q1])⟩ hc⟩
end WS2
section WS3
variable {g : LH} {n k M : Nat}
/-- debts after the flows -/
theorem tn3_ptW (T : LT g n k) (A : AGW g n k) (D : DBW g n M) (hM : M ≤ 20000000) {a x y m : Nat} (ha : a < k) (hx : x ≤ n) (hy : y ≤ n) (ho : rf_off g a = true) (hm : m < lc_n g x y) (er : rr (lc g a x y) m = rlr (lc g a x y) (lc_n g x y) 0 1000000) {p : Nat} (hp : p < n) : ∃ v, v ≤ 2000 + 100 * (M + 1) ∧ (tn3 g a x y).1 271 (65 + p) = nI v := by
  have hn := T.1.1
  have e271 := lc_271 T ha hx hy
  obtain ⟨dl, hdl, edl, all⟩ := lc_dlW T A D hM ha hx hy hm er
  obtain ⟨v, h1, h3, -⟩ := D p hp
  have hinj : ∀ m1 m2, m1 < lc_n g x y → m2 < lc_n g x y → fx ((lc g a x y).1 285 m1) = fx ((lc g a x y).1 285 m2) → m1 = m2 := fun m1 m2 q1 q2 e => lc_inj T ha hx hy ho q1 q2 (fx_inj hn.2.1 hn.2.2 (lc_ed T ha hx hy q1) (lc_ed T ha hx hy q2) e)
  by_cases hc : ∃ i, i < lc_n g x y ∧ (lc g a x y).1 285 i = nI (100 + p)
  · obtain ⟨i, hi, ei⟩ := hc
    have fi : fx ((lc g a x y).1 285 i) = 65 + p := by rw [ei]; exact fx_p (by omega)
    have val := fls_at (dl := nI dl) (m := i) (lc_n g x y) 0 (lc g a x y) (Nat.zero_le _) (by omega) (fun m2 _ q2 e => hinj m2 i (by omega) hi e)
    rw [fi, e271] at val
    have val2 : (tn3 g a x y).1 271 (65 + p) = g.1 271 (65 + p) + (if (lc g a x y).1 286 i = 0 then -nI dl else nI dl) := by
      unfold tn3
      rw [edl]
      exact val
    have hroom : rr (lc g a x y) i = nI (if (lc g a x y).1 286 i = 0 then v else 1000000) := by
      rcases lc_roomW T A D hM ha hx hy hi with ⟨b2, hb2, q0, -⟩ | ⟨p2, hp2, q0, v2, q1, q2, q3⟩
      · have := (nI_eq (by omega) (by omega)).mp (q0.symm.trans ei)
        omega
      · have : p2 = p := by
          have := (nI_eq (by omega) (by omega)).mp (q0.symm.trans ei)
          omega
        subst this
        have ev : v2 = v := (nI_eq (by omega) (by omega)).mp (q2.symm.trans h3)
        rw [← ev]
        exact q3
    have le := all i _ hi (by split <;> omega) hroom
    by_cases c : (lc g a x y).1 286 i = 0
    · rw [if_pos c] at val2 le
      rw [h3, nI_subneg le] at val2
      exact ⟨v - dl, by omega, val2⟩
    · rw [if_neg c] at val2
      rw [h3, nI_add] at val2
      exact ⟨v + dl, by omega, val2⟩
  · have val := fls_out (dl := nI dl) (ix := 65 + p) (lc_n g x y) 0 (lc g a x y) (fun m2 _ q2 e => hc ⟨m2, by omega, by
      rcases lc_ed T ha hx hy (show m2 < lc_n g x y by omega) with ⟨b2, hb2, eb⟩ | ⟨p2, hp2, ep⟩
      · rw [eb, fx_a (by omega)] at e
        omega
      · rw [ep, fx_p (by omega)] at e
        rw [ep, show p2 = p by omega]⟩)
    rw [e271] at val
    have val2 : (tn3 g a x y).1 271 (65 + p) = g.1 271 (65 + p) := by
      unfold tn3
      rw [edl]
      exact val
    exact ⟨v, by omega, val2.trans h3⟩
theorem tn_keepW (T : LT g n k) (C : CP g n k) (B : FBW g k) (A : AGW g n k) (D : DBW g n M) (N : GN g) (hM : M ≤ 20000000) {a x y m : Nat} (ha : a < k) (hx : x < n) (hy : y < n) (ho : rf_off g a = true) (ex : (if rm g a 5 = 0 then rm g a 0 else rm g a 1) = nI x) (ey : (if rm g a 5 = 0 then rm g a 1 else rm g a 0) = nI y) (hm : m < lc_n g x y) (er : rr (lc g a x y) m = rlr (lc g a x y) (lc_n g x y) 0 1000000) : GIW (tn5 g a x y m) n k (M + 1) ∧ (∀ ix, KX ix → (tn5 g a x y m).1 271 ix = g.1 271 ix) ∧ (∀ e, e ≠ 271 → e ≠ 285 → e ≠ 286 → e ≠ 270 → (tn5 g a x y m).1 e = g.1 e) ∧ (tn5 g a x y m).2 = g.2 ∧ (∀ i, i ≠ 30 → i ≠ 31 → (tn5 g a x y m).1 270 i = g.1 270 i) := by
  have hn := T.1.1
  have hx' : x ≤ n := by omega
  have hy' : y ≤ n := by omega
  obtain ⟨Y, FJ, -, -, -, -⟩ := lc_ok T ha hx' hy'
  have E := lc_ed T (m := m) ha hx' hy' hm
  have W := fls_fw (dl := rlr (lc g a x y) (lc_n g x y) 0 1000000) (lc_n g x y) 0 (lc g a x y) Y (by omega)
  have ar := fun b (hb : b < k) => tn3_arcW T A D hM ha hx' hy' ho hm er ex hb
  have pt := fun p (hp : p < n) => tn3_ptW T A D hM ha hx' hy' ho hm er hp
  have e271 := lc_271 T ha hx' hy'
  have ids := lc_ids (a := a) hm
  have brn := lc_branch T hx' hy'
  have hnd : rm g a 5 = 0 ∨ rm g a 5 = 1 := off_w ho
  have hW : Fw (lc g a x y) (tn3 g a x y) := W
  -- the row before the standings change
  have g3ix : ∀ ix, ¬ IXF ix → (tn3 g a x y).1 271 ix = g.1 271 ix := fun ix h => by rw [hW.2.2 ix h, e271]
  have g35 : ∀ b, rm (tn3 g a x y) b 5 = rm g b 5 := fun b => g3ix _ (by unfold IXF; intro z; rcases z with z | ⟨c, -, z⟩ <;> omega)
  have g3N : (tn3 g a x y).1 271 7 = g.1 271 7 := g3ix 7 (by unfold IXF; intro z; rcases z with z | ⟨c, -, z⟩ <;> omega)
  have f1 : ∀ e, e ≠ 271 → e ≠ 285 → e ≠ 286 → e ≠ 270 → (tn3 g a x y).1 e = g.1 e := fun e h1 h2 h3 h4 => (hW.1 e h1).trans (FJ.1 e h2 h3 h4)
  have f2 : (tn3 g a x y).2 = g.2 := hW.2.1.trans FJ.2.1
  have f3 : ∀ i, i ≠ 30 → i ≠ 31 → (tn3 g a x y).1 270 i = g.1 270 i := fun i h1 h2 => by rw [hW.1 270 (by decide)]; exact FJ.2.2 i h1 h2
  unfold tn5
  generalize rlr (lc g a x y) (lc_n g x y) 0 1000000 = dl at *
  generalize (lc g a x y).1 285 m = id at *
  generalize tn3 g a x y = g3 at *
  obtain ⟨t1, t2, t3, t4, t5, t6, t7, t8⟩ := tn4_lo (g := g3) E hn.2.1 hn.2.2 ha
  have N4 : GN (tn4 g3 a id) := by
    unfold GN
    rw [t3 7 (by omega) (fun b _ => by omega), g3N]
    exact N
  generalize tn4 g3 a id = g4 at *
  have P := ip_fp (g := g4) (x := nI a) (y := id) (z := dl)
  obtain ⟨N5, L5⟩ := ip_gn (x := nI a) (y := id) (z := dl) N4
  generalize ip g4 (nI a) id dl = G at *
  have keep : ∀ ix, KX ix → G.1 271 ix = g.1 271 ix := by
    intro ix hk
    have c1 : ix < 3 ∨ 44 ≤ ix := by rcases hk with z | z | z | z | ⟨b, w, z, -⟩ <;> omega
    have c2 : ¬ (51 ≤ ix ∧ ix < 58) := by rcases hk with z | z | z | z | ⟨b, w, z, -⟩ <;> omega
    have c3 : ∀ b, b < k → ix ≠ 72 + 7 * b + 5 := by
      intro b hb e
      rcases hk with z | z | z | z | ⟨b2, w, z, h1, h2, h3⟩ <;> omega
    have c4 : ¬ IXF ix := by
      intro z2
      unfold IXF at z2
      rcases z2 with z2 | ⟨c, hc, z2⟩ <;> rcases hk with z | z | z | z | ⟨b2, w, z, h1, h2, h3⟩ <;> omega
    rw [P.2.2 ix c1, t3 ix c2 c3, g3ix ix c4]
  have kr : ∀ b w, w < 7 → w ≠ 4 → w ≠ 5 → rm G b w = rm g b w := fun b w h1 h2 h3 => keep _ (Or.inr (Or.inr (Or.inr (Or.inr ⟨b, w, rfl, h1, h2, h3⟩))))
  have k4 : ∀ b, b < k → rm G b 4 = rm g3 b 4 := fun b hb => by
    unfold rm
    rw [P.2.2 _ (by omega), t3 _ (by omega) (fun c _ => by omega)]
  have k5 : ∀ b, rm G b 5 = rm g4 b 5 := fun b => P.2.2 _ (by omega)
  have k51 : ∀ p, p < n → G.1 271 (51 + p) = g4.1 271 (51 + p) := fun p _ => P.2.2 _ (by omega)
  have g351 : ∀ p, p < n → g3.1 271 (51 + p) = g.1 271 (51 + p) := fun p hp => g3ix _ (by unfold IXF; intro z; rcases z with z | ⟨c, -, z⟩ <;> omega)
  refine ⟨⟨⟨T.1.1, by rw [keep 0 (Or.inl (by omega))]; exact T.1.2.1, by rw [keep 1 (Or.inl (by omega))]; exact T.1.2.2.1, fun b hb => by rw [kr b 0 (by omega) (by omega) (by omega), kr b 1 (by omega) (by omega) (by omega)]; exact T.1.2.2.2 b hb⟩, ?_, ⟨a + 1, by omega, by rw [L5, nI_1]⟩, ?_, ⟨fun b hb => by rw [kr b 0 (by omega) (by omega) (by omega), kr b 1 (by omega) (by omega) (by omega)]; exact A.1 b hb, fun b hb => ?_, fun b hb => by rw [kr b 3 (by omega) (by omega) (by omega)]; exact A.2.2.1 b hb, fun p hp => by rw [keep _ (Or.inr (Or.inl (by omega)))]; exact A.2.2.2 p hp⟩, fun p hp => ?_, N5⟩, keep, fun e h1 h2 h3 h4 => ?_, ?_, fun i h1 h2 => ?_⟩
  · -- the cut property
    have hR : ∀ b, b < k → rm G b 0 = rm g b 0 ∧ rm G b 1 = rm g b 1 := fun b _ => ⟨kr b 0 (by omega) (by omega) (by omega), kr b 1 (by omega) (by omega) (by omega)⟩
    by_cases hid : id = nI a
    · refine C.hang hR (fun b hb hh => ?_) (fun p hp hl => ?_)
      · by_cases hba : b = a
        · subst hba
          unfold rf_hangs at hh
          have h2 := of_decide_eq_true hh
          rcases hnd with z | z
          · rw [z] at h2
            exact absurd h2 (by decide)
          · rw [z] at h2
            exact absurd h2 (by decide)
        · unfold rf_hangs at hh ⊢
          rw [k5, t6 b hba hb (fun z => hba ((nI_eq (by omega) (by omega)).mp (z.symm.trans hid))), g35]
          exact hh
      · rw [k51 p hp, t8 p hp (fun z => by
          have := (nI_eq (by omega) (by omega)).mp (z.symm.trans hid)
          omega), g351 p hp]
        exact hl
    · obtain ⟨i, j, ei, ej, hi, hj, ez, dis⟩ := brn
      rw [ei, ej] at ids
      have hp0 : ∃ p0, ((∃ i0, i0 < i ∧ p0 = tw g i0 x) ∨ ∃ j0, j0 < j ∧ p0 = tw g j0 y) ∧ id = g.1 282 p0 := by
        rcases ids with z | ⟨i0, h1, h2⟩ | ⟨j0, h1, h2⟩
        · exact absurd z hid
        · exact ⟨_, Or.inl ⟨i0, h1, rfl⟩, h2⟩
        · exact ⟨_, Or.inr ⟨j0, h1, rfl⟩, h2⟩
      obtain ⟨p0, on, eid⟩ := hp0
      have ends : (rm g a 0 = nI x ∧ rm g a 1 = nI y) ∨ (rm g a 1 = nI x ∧ rm g a 0 = nI y) := by
        by_cases z : rm g a 5 = 0
        · rw [if_pos z] at ex ey
          exact Or.inl ⟨ex, ey⟩
        · rw [if_neg z] at ex ey
          exact Or.inr ⟨ex, ey⟩
      refine CP.piv T C ha hx hy ends hi hj ez dis on hR ?_ (fun b hb hne hh => ?_) (fun p hp hne hl => ?_)
      · unfold rf_hangs
        rw [k5, t4 hid]
        rfl
      · by_cases hba : b = a
        · rw [hba]
          unfold rf_hangs
          rw [k5, t4 hid]
          rfl
        · unfold rf_hangs at hh ⊢
          rw [k5, t6 b hba hb (fun z => hne (by rw [← eid]; exact z)), g35]
          exact hh
      · rw [k51 p hp, t8 p hp (fun z => hne (by rw [← eid]; exact z)), g351 p hp]
        exact hl
  · -- empty or full
    intro b hb
    obtain ⟨v, bd, h1, h2, h3, h4, h5, h6, h7⟩ := ar b hb
    rw [kr b 2 (by omega) (by omega) (by omega), k4 b hb, k5 b]
    refine ⟨(B b hb).1, ?_⟩
    by_cases hba : b = a
    · by_cases hid : id = nI a
      · have w := h7 hba hid (A.1 a ha) B
        rw [hba, t5 hid, g35]
        rw [hba] at h3 h4
        rw [h3, h4]
        rcases hnd with z | z
        · rw [if_pos z]
          exact ⟨fun q => absurd q (by decide), fun _ => by rw [w.1 z]⟩
        · rw [if_neg (by rw [z]; decide)]
          exact ⟨fun _ => by rw [w.2 z]; rfl, fun q => absurd q (by decide)⟩
      · rw [hba, t4 hid]
        exact ⟨fun q => absurd q (by decide), fun q => absurd q (by decide)⟩
    · by_cases hid : id = nI b
      · rw [t7 b hba hb hid, h3, h4]
        rcases h5 hid with z | z
        · rw [z, if_pos nI_0]
          exact ⟨fun _ => rfl, fun q => absurd q (by decide)⟩
        · rw [z]
          by_cases q0 : nI bd = 0
          · rw [if_pos q0]
            exact ⟨fun _ => q0, fun q => absurd q (by decide)⟩
          · rw [if_neg q0]
            exact ⟨fun q => absurd q (by decide), fun _ => rfl⟩
      · rw [t6 b hba hb hid, g35]
        refine ⟨fun q => ?_, fun q => ?_⟩
        · rw [h6 (by rw [q]; decide) hba]
          exact (B b hb).2.1 q
        · rw [h6 (by rw [q]; decide) hba]
          exact (B b hb).2.2 q
  · obtain ⟨v, bd, h1, h2, h3, h4, -⟩ := ar b hb
    exact ⟨v, bd, h1, h2, by rw [k4 b hb]; exact h3, by rw [kr b 2 (by omega) (by omega) (by omega)]; exact h4⟩
  · obtain ⟨v, h1, h2⟩ := pt p hp
    obtain ⟨-, -, -, dw⟩ := D p hp
    exact ⟨v, h1, by rw [P.2.2 _ (by omega), t3 _ (by omega) (fun c _ => by omega)]; exact h2, by rw [keep (58 + p) (Or.inr (Or.inr (Or.inl (by omega))))]; exact dw⟩
  · rw [P.1 e h1, t1 e h1, f1 e h1 h2 h3 h4]
  · rw [P.2.1, t2, f2]
  · rw [P.1 270 (by decide), t1 270 (by decide), f3 i h1 h2]
end WS3
section WS4
variable {h g : LH} {n k M d : Nat}
theorem GIW.lt (G : GIW h n k M) : LT (lt h n k) n k := ⟨G.1.fl lt_fl.r, lt_ok G.1 G.2.1⟩
theorem GIW.fl (G : GIW h n k M) (F : Fl h g) : GIW g n k M := G.cong (fun i _ => by rw [F.r])
end WS4
section WS5
variable {h g : LH} {n k M d : Nat}
/-- a grid before it begins -/
def BIW (g : LH) (n k : Nat) : Prop := RM g n k ∧ RS g ∧ GN g ∧ (∀ a, a < k → rm g a 0 ≠ rm g a 1) ∧ (∀ a, a < k → vp_in (rm g a 2) 101) ∧ (∀ a, a < k → ∃ c, c ≤ 199 ∧ rm g a 3 + 99 = nI c) ∧ (∀ p, p < n → ∃ s, s ≤ 200 ∧ g.1 271 (44 + p) + 100 = nI s)
theorem GIW.bi (G : GIW h n k M) : BIW h n k := ⟨G.1, G.2.2.1, G.2.2.2.2.2.2, G.2.2.2.2.1.1, fun a ha => (G.2.2.2.1 a ha).1, G.2.2.2.2.1.2.2.1, G.2.2.2.2.1.2.2.2⟩
theorem BIW.fb (B : BIW h n k) (F : Fb h g) : BIW g n k := by
  obtain ⟨R, S, N, A1, A2, A3, A4⟩ := B
  have hn := R.1
  have er : ∀ b w, w < 7 → w ≠ 4 → w ≠ 5 → rm g b w = rm h b w := fun b w h1 h2 h3 => F.rm h1 h2 h3
  have lo : ∀ i, i < 51 → g.1 271 i = h.1 271 i := fun i hi => F.2.2 i (Or.inl hi)
  refine ⟨⟨R.1, by rw [lo 0 (by omega)]; exact R.2.1, by rw [lo 1 (by omega)]; exact R.2.2.1, fun a ha => by rw [er a 0 (by omega) (by omega) (by omega), er a 1 (by omega) (by omega) (by omega)]; exact R.2.2.2 a ha⟩, by unfold RS; rw [lo 6 (by omega)]; exact S, by unfold GN; rw [lo 7 (by omega)]; exact N, fun a ha => by rw [er a 0 (by omega) (by omega) (by omega), er a 1 (by omega) (by omega) (by omega)]; exact A1 a ha, fun a ha => by rw [er a 2 (by omega) (by omega) (by omega)]; exact A2 a ha, fun a ha => by rw [er a 3 (by omega) (by omega) (by omega)]; exact A3 a ha, fun p hp => by rw [lo _ (by omega)]; exact A4 p hp⟩
end WS5
section WS6
variable {h g : LH} {n k M d : Nat}
/-- arcs a below m are empty or full -/
theorem ba1_atW {w : Int32} {a : Nat} (hb : vp_in (rm g a 2) 101) : (rm (ba1 g w a) a 5 = 0 ∧ rm (ba1 g w a) a 4 = 0) ∨ (rm (ba1 g w a) a 5 = 1 ∧ rm (ba1 g w a) a 4 = rm g a 2) := by
  unfold ba1
  split
  · refine Or.inr ⟨?_, rp_at⟩
    exact (rp_ne (by omega)).trans rp_at
  · refine Or.inl ⟨?_, rp_at⟩
    exact (rp_ne (by omega)).trans rp_at
theorem ba_efW {w : Int32} : ∀ (f a : Nat) (g : LH), a + f ≤ 14 → (∀ b, b < a + f → vp_in (rm g b 2) 101) → (∀ b, b < a → EF g b) → ∀ b, b < a + f → EF (ba w f a g) b
  | 0, a, g, ha, hb, he, b, hlt => he b hlt
  | f + 1, a, g, ha, hb, he, b, hlt => by
    rw [ba]
    have F := ba1_fb (g := g) (w := w) (a := a) (by omega)
    have r2 : ∀ c, rm (ba1 g w a) c 2 = rm g c 2 := fun c => F.rm (by omega) (by omega) (by omega)
    refine ba_efW f (a + 1) _ (by omega) (fun c hc => by rw [r2]; exact hb c (by omega)) (fun c hc => ?_) b (by omega)
    by_cases e : c = a
    · subst e
      have := ba1_atW (w := w) (hb c (by omega))
      unfold EF
      rw [r2]
      exact this
    · unfold EF
      rw [r2, ba1_ne (by omega) e, ba1_ne (by omega) e]
      exact he c (by omega)
theorem lf_inW {p : Nat} (hf : ∀ a, a < k → ∃ v, v < 101 ∧ rm g a 4 = nI v) : ∀ (f a : Nat) (s : Int32) (t : Nat), a + f = k → t ≤ 200 * (a + 1) → s + nI (100 * (a + 1)) = nI t → ∃ t2, t2 ≤ 200 * (k + 1) ∧ lf g p f a s + nI (100 * (k + 1)) = nI t2
  | 0, a, s, t, ha, ht, e => ⟨t, by subst ha; exact ht, by subst ha; exact e⟩
  | f + 1, a, s, t, ha, ht, e => by
    rw [lf]
    obtain ⟨v, hv, ev⟩ := hf a (by omega)
    have key : ∃ t1, t1 ≤ 200 ∧ lf1 g p a + nI 100 = nI t1 := by
      unfold lf1
      rw [ev]
      split
      · exact ⟨v + 100, by omega, nI_add v 100⟩
      · split
        · refine ⟨100 - v, by omega, ?_⟩
          rw [Int32.add_comm]
          exact nI_subneg (by omega)
        · exact ⟨100, by omega, Int32.zero_add _⟩
    obtain ⟨t1, h1, e1⟩ := key
    refine lf_inW hf f (a + 1) _ (t + t1) (by omega) (by omega) ?_
    have : nI (100 * (a + 1 + 1)) = nI (100 * (a + 1)) + nI 100 := by rw [nI_add, show 100 * (a + 1) + 100 = 100 * (a + 1 + 1) by omega]
    rw [this, ← nI_add, ← e, ← e1, Int32.add_assoc, Int32.add_assoc]
    congr 1
    rw [← Int32.add_assoc, Int32.add_comm (lf1 g p a), Int32.add_assoc]
theorem bp_okW : ∀ (f p : Nat) (g : LH), p + f ≤ 7 → k ≤ 14 → (∀ a, a < k → ∃ v, v < 101 ∧ rm g a 4 = nI v) → (∀ q, q < p + f → ∃ s, s ≤ 200 ∧ g.1 271 (44 + q) + 100 = nI s) → (∀ q, q < p → g.1 271 (51 + q) = 1 ∧ ∃ v, v ≤ 1500 ∧ g.1 271 (65 + q) = nI v ∧ (g.1 271 (58 + q) = 1 ∨ g.1 271 (58 + q) = -1)) → (∀ q, q < p + f → (bp k f p g).1 271 (51 + q) = 1 ∧ ∃ v, v ≤ 1500 ∧ (bp k f p g).1 271 (65 + q) = nI v ∧ ((bp k f p g).1 271 (58 + q) = 1 ∨ (bp k f p g).1 271 (58 + q) = -1)) ∧ (∀ e, e ≠ 271 → (bp k f p g).1 e = g.1 e) ∧ (bp k f p g).2 = g.2 ∧ ∀ ix, ix < 51 ∨ 72 ≤ ix → (bp k f p g).1 271 ix = g.1 271 ix
  | 0, p, g, hp, hk, ha, hs, hd => ⟨hd, fun _ _ => rfl, rfl, fun _ _ => rfl⟩
  | f + 1, p, g, hp, hk, ha, hs, hd => by
    rw [bp]
    obtain ⟨l1, l2, l3⟩ := bp1_lo (g := g) (k := k) (p := p)
    have r : ∀ a w, rm (bp1 g k p) a w = rm g a w := fun a w => l3 _ (by omega) (by omega) (by omega)
    obtain ⟨s, hs1, hs2⟩ := hs p (by omega)
    obtain ⟨t, ht, et⟩ := lf_inW (g := g) (p := p) (k := k) ha k 0 (g.1 271 (44 + p)) s (by omega) (by omega) hs2
    obtain ⟨v, hv, ev⟩ := abs_in (m := 100 * (k + 1)) (by omega) (by omega) et
    have d65 : (bp1 g k p).1 271 (65 + p) = nI v := by
      unfold bp1
      rw [w1_eq]
      exact ev
    have d58 : (bp1 g k p).1 271 (58 + p) = 1 ∨ (bp1 g k p).1 271 (58 + p) = -1 := by
      unfold bp1
      rw [w1_at (by omega), w1_eq]
      split
      · exact Or.inr rfl
      · exact Or.inl rfl
    have d51 : (bp1 g k p).1 271 (51 + p) = 1 := by
      unfold bp1
      rw [w1_at (by omega), w1_at (by omega), w1_eq]
    obtain ⟨k1, k2, k3, k4⟩ := bp_okW f (p + 1) (bp1 g k p) (by omega) hk (fun a h1 => by rw [r]; exact ha a h1) (fun q hq => by rw [l3 _ (by omega) (by omega) (by omega)]; exact hs q (by omega)) (fun q hq => by
      by_cases e : q = p
      · subst e
        exact ⟨d51, v, by omega, d65, d58⟩
      · rw [l3 (51 + q) (by omega) (by omega) (by omega), l3 (65 + q) (by omega) (by omega) (by omega), l3 (58 + q) (by omega) (by omega) (by omega)]
        exact hd q (by omega))
    exact ⟨fun q hq => k1 q (by omega), fun e he => (k2 e he).trans (l1 e he), k3.trans l2, fun ix hx => (k4 ix hx).trans (l3 ix (by omega) (by omega) (by omega))⟩
theorem bgn_okW {w : Int32} (B : BIW g n k) : GIW (bgn g n k w) n k M ∧ Fb g (bgn g n k w) := by
  have hn := B.1.1
  have F1 := ba_fb (w := w) k 0 g (by omega)
  have B1 : BIW (ba w k 0 g) n k := B.fb F1
  have E1 := ba_efW (w := w) k 0 g (by omega) (fun b hb => B.2.2.2.2.1 b (by omega)) (fun b hb => absurd hb (by omega))
  rw [Nat.zero_add] at E1
  unfold bgn
  generalize ba w k 0 g = g1 at *
  have fl : ∀ a, a < k → ∃ v, v < 101 ∧ rm g1 a 4 = nI v := by
    intro a ha
    rcases E1 a ha with ⟨-, z⟩ | ⟨-, z⟩
    · exact ⟨0, by omega, z⟩
    · rw [z]
      exact vi_nI (B1.2.2.2.2.1 a ha)
  obtain ⟨k1, k2, k3, k4⟩ := bp_okW (k := k) n 0 g1 (by omega) hn.2.2 fl (fun q hq => B1.2.2.2.2.2.2 q (by omega)) (fun q hq => absurd hq (by omega))
  rw [Nat.zero_add] at k1
  generalize bp k n 0 g1 = g2 at *
  have F2 : Fb g1 g2 := ⟨k2, k3, fun ix hx => k4 ix (by rcases hx with z | z | ⟨b, w2, z, -⟩ <;> omega)⟩
  have B2 : BIW g2 n k := B1.fb F2
  have r : ∀ a v, rm g2 a v = rm g1 a v := fun a v => k4 _ (by omega)
  refine ⟨⟨B2.1, fun S hS ⟨p, hp, hSp⟩ => Or.inl ⟨p, hp, hSp, (k1 p hp).1⟩, B2.2.1, fun a ha => ⟨B2.2.2.2.2.1 a ha, ?_, ?_⟩, ⟨B2.2.2.2.1, fun a ha => ?_, B2.2.2.2.2.2.1, B2.2.2.2.2.2.2⟩, fun p hp => ?_, B2.2.2.1⟩, F1.tr F2⟩
  · rw [r, r]
    rcases E1 a ha with ⟨z1, z2⟩ | ⟨z1, z2⟩
    · exact fun _ => z2
    · rw [z1]
      exact fun q => absurd q (by decide)
  · rw [r, r, r]
    rcases E1 a ha with ⟨z1, z2⟩ | ⟨z1, z2⟩
    · rw [z1]
      exact fun q => absurd q (by decide)
    · exact fun _ => z2
  · rw [r, r]
    obtain ⟨bd, hbd, eb⟩ := vi_nI (B1.2.2.2.2.1 a ha)
    rcases E1 a ha with ⟨-, z2⟩ | ⟨-, z2⟩
    · exact ⟨0, bd, by omega, hbd, z2, eb⟩
    · exact ⟨bd, bd, by omega, hbd, z2.trans eb, eb⟩
  · obtain ⟨v, hv, e⟩ := (k1 p hp).2
    exact ⟨v, by omega, e⟩
end WS6
section WS7
variable {h g : LH} {n k M d : Nat}
theorem GIW.ru {v : Int32} (G : GIW h n k M) : GIW (w1 h 271 2 v) n k M := by
  obtain ⟨R, C, S, FB1, ⟨A1, A2, A3, A4⟩, D, N⟩ := G
  have hn := R.1
  have e : ∀ i, i ≠ 2 → (w1 h 271 2 v).1 271 i = h.1 271 i := fun i hi => w1_at hi
  generalize w1 h 271 2 v = g2 at *
  have er : ∀ a w, rm g2 a w = rm h a w := fun a w => e _ (by omega)
  exact ⟨⟨R.1, by rw [e 0 (by omega)]; exact R.2.1, by rw [e 1 (by omega)]; exact R.2.2.1, fun a ha => by rw [er, er]; exact R.2.2.2 a ha⟩, C.hang (fun b _ => ⟨er b 0, er b 1⟩) (fun b _ hh => by unfold rf_hangs at hh ⊢; rw [er]; exact hh) (fun p _ hl => by rw [e _ (by omega)]; exact hl), by unfold RS; rw [e 6 (by omega)]; exact S, fun a ha => by rw [er, er, er]; exact FB1 a ha, ⟨fun a ha => by rw [er, er]; exact A1 a ha, fun a ha => by rw [er, er]; exact A2 a ha, fun a ha => by rw [er]; exact A3 a ha, fun p hp => by rw [e _ (by omega)]; exact A4 p hp⟩, fun p hp => by rw [e (65 + p) (by omega), e (58 + p) (by omega)]; exact D p hp, by unfold GN; rw [e 7 (by omega)]; exact N⟩
end WS7
section WS8
variable {h g : LH} {n k M d : Nat}
theorem BIW.sup {p : Nat} {v : Int32} {s : Nat} (B : BIW h n k) (hp : p < 7) (hs : s ≤ 200) (e : v + 100 = nI s) : BIW (w1 h 271 (44 + p) v) n k := by
  obtain ⟨R, S, N, A1, A2, A3, A4⟩ := B
  have hn := R.1
  have ev : (w1 h 271 (44 + p) v).1 271 (44 + p) = v := w1_eq
  have en : ∀ i, i ≠ 44 + p → (w1 h 271 (44 + p) v).1 271 i = h.1 271 i := fun i hi => w1_at hi
  generalize w1 h 271 (44 + p) v = g2 at *
  have er : ∀ a w, rm g2 a w = rm h a w := fun a w => en _ (by omega)
  refine ⟨⟨R.1, by rw [en 0 (by omega)]; exact R.2.1, by rw [en 1 (by omega)]; exact R.2.2.1, fun a ha => by rw [er, er]; exact R.2.2.2 a ha⟩, by unfold RS; rw [en 6 (by omega)]; exact S, by unfold GN; rw [en 7 (by omega)]; exact N, fun a ha => by rw [er, er]; exact A1 a ha, fun a ha => by rw [er]; exact A2 a ha, fun a ha => by rw [er]; exact A3 a ha, fun q hq => ?_⟩
  by_cases z : q = p
  · rw [z, ev]
    exact ⟨s, hs, e⟩
  · rw [en _ (by omega)]
    exact A4 q hq
theorem BIW.arc {a w : Nat} {v : Int32} (B : BIW h n k) (ha : a < 14) (hw : (w = 2 ∧ vp_in v 101) ∨ w = 6) : BIW (rp h a w v) n k := by
  obtain ⟨R, S, N, A1, A2, A3, A4⟩ := B
  have hn := R.1
  have ev : rm (rp h a w v) a w = v := rp_at
  have en : ∀ i, i ≠ 72 + 7 * a + w → (rp h a w v).1 271 i = h.1 271 i := fun i hi => rp_ne hi
  generalize rp h a w v = g2 at *
  have er : ∀ b c, c < 7 → c ≠ w → rm g2 b c = rm h b c := fun b c h1 h2 => en _ (by omega)
  refine ⟨⟨R.1, by rw [en 0 (by omega)]; exact R.2.1, by rw [en 1 (by omega)]; exact R.2.2.1, fun b hb => by rw [er b 0 (by omega) (by omega), er b 1 (by omega) (by omega)]; exact R.2.2.2 b hb⟩, by unfold RS; rw [en 6 (by omega)]; exact S, by unfold GN; rw [en 7 (by omega)]; exact N, fun b hb => by rw [er b 0 (by omega) (by omega), er b 1 (by omega) (by omega)]; exact A1 b hb, fun b hb => ?_, fun b hb => by rw [er b 3 (by omega) (by omega)]; exact A3 b hb, fun q hq => by rw [en _ (by omega)]; exact A4 q hq⟩
  rcases hw with ⟨hw, hv⟩ | hw
  · by_cases z : b = a
    · subst z
      subst hw
      rw [ev]
      exact hv
    · have : rm g2 b 2 = rm h b 2 := en _ (by omega)
      rw [this]
      exact A2 b hb
  · rw [er b 2 (by omega) (by omega)]
    exact A2 b hb
end WS8
section WSY
variable {h g : LH} {n k M : Nat}
theorem GIW.c5 {v : Int32} (G : GIW h n k M) : GIW (w1 h 271 5 v) n k M := by
  obtain ⟨R, C, S, FB1, ⟨A1, A2, A3, A4⟩, D, N⟩ := G
  have hn := R.1
  have e : ∀ i, i ≠ 5 → (w1 h 271 5 v).1 271 i = h.1 271 i := fun i hi => w1_at hi
  generalize w1 h 271 5 v = g2 at *
  have er : ∀ a w, rm g2 a w = rm h a w := fun a w => e _ (by omega)
  exact ⟨⟨R.1, by rw [e 0 (by omega)]; exact R.2.1, by rw [e 1 (by omega)]; exact R.2.2.1, fun a ha => by rw [er, er]; exact R.2.2.2 a ha⟩, C.hang (fun b _ => ⟨er b 0, er b 1⟩) (fun b _ hh => by unfold rf_hangs at hh ⊢; rw [er]; exact hh) (fun p _ hl => by rw [e _ (by omega)]; exact hl), by unfold RS; rw [e 6 (by omega)]; exact S, fun a ha => by rw [er, er, er]; exact FB1 a ha, ⟨fun a ha => by rw [er, er]; exact A1 a ha, fun a ha => by rw [er, er]; exact A2 a ha, fun a ha => by rw [er]; exact A3 a ha, fun p hp => by rw [e _ (by omega)]; exact A4 p hp⟩, fun p hp => by rw [e (65 + p) (by omega), e (58 + p) (by omega)]; exact D p hp, by unfold GN; rw [e 7 (by omega)]; exact N⟩
end WSY
section WSX
variable {h g : LH} {n k M : Nat}
/-- what holds of 99 holds of 100 -/
theorem FBW.wk (B : FB g k) : FBW g k := fun a ha => ⟨vi_mono (B a ha).1 (by omega), (B a ha).2⟩
theorem AGW.wk (A : AG g n k) : AGW g n k := by
  obtain ⟨A1, A2, A3, A4⟩ := A
  refine ⟨A1, fun a ha => ?_, fun a ha => ?_, fun p hp => ?_⟩
  · obtain ⟨v, b, h1, h2, h3, h4⟩ := A2 a ha
    exact ⟨v, b, h1, by omega, h3, h4⟩
  · obtain ⟨c, h1, h2⟩ := A3 a ha
    exact ⟨c, by omega, h2⟩
  · obtain ⟨s, h1, h2⟩ := A4 p hp
    exact ⟨s + 1, by omega, by rw [show (100 : Int32) = 99 + 1 from rfl, ← Int32.add_assoc, h2, nI_1]⟩
theorem GIW.wk (G : GI g n k M) : GIW g n k M := ⟨G.1, G.2.1, G.2.2.1, FBW.wk G.2.2.2.1, AGW.wk G.2.2.2.2.1, fun p hp => by
  obtain ⟨v, hv, e⟩ := G.2.2.2.2.2.1 p hp
  exact ⟨v, by omega, e⟩, G.2.2.2.2.2.2⟩
theorem v99W {x : Int32} {s : Nat} (hs : s ≤ 199) (e : x + 99 = nI s) : -100 ≤ x.toInt ∧ x.toInt ≤ 100 := by
  have ex : x = nI s - 99 := by rw [← e]; exact (Int32.add_sub_cancel x 99).symm
  have : (nI s - 99).toInt = (s : Int) - (99 : Nat) := pk_sub_toInt (a := s) (b := 99) (by omega) (by decide)
  rw [ex, this]
  omega
theorem v100W {x : Int32} {s : Nat} (hs : s ≤ 200) (e : x + 100 = nI s) : -100 ≤ x.toInt ∧ x.toInt ≤ 100 := by
  have ex : x = nI s - 100 := by rw [← e]; exact (Int32.add_sub_cancel x 100).symm
  have : (nI s - 100).toInt = (s : Int) - (100 : Nat) := pk_sub_toInt (a := s) (b := 100) (by omega) (by decide)
  rw [ex, this]
  omega
theorem BIW.cost {a : Nat} {v : Int32} {c : Nat} (B : BIW h n k) (ha : a < 14) (hc : c ≤ 199) (e : v + 99 = nI c) : BIW (rp h a 3 v) n k := by
  obtain ⟨R, S, N, A1, A2, A3, A4⟩ := B
  have hn := R.1
  have ev : rm (rp h a 3 v) a 3 = v := rp_at
  have en : ∀ i, i ≠ 72 + 7 * a + 3 → (rp h a 3 v).1 271 i = h.1 271 i := fun i hi => rp_ne hi
  generalize rp h a 3 v = g2 at *
  have er : ∀ b c, c < 7 → c ≠ 3 → rm g2 b c = rm h b c := fun b c h1 h2 => en _ (by omega)
  refine ⟨⟨R.1, by rw [en 0 (by omega)]; exact R.2.1, by rw [en 1 (by omega)]; exact R.2.2.1, fun b hb => by rw [er b 0 (by omega) (by omega), er b 1 (by omega) (by omega)]; exact R.2.2.2 b hb⟩, by unfold RS; rw [en 6 (by omega)]; exact S, by unfold GN; rw [en 7 (by omega)]; exact N, fun b hb => by rw [er b 0 (by omega) (by omega), er b 1 (by omega) (by omega)]; exact A1 b hb, fun b hb => by rw [er b 2 (by omega) (by omega)]; exact A2 b hb, fun b hb => ?_, fun p hp => by rw [en _ (by omega)]; exact A4 p hp⟩
  by_cases z : b = a
  · rw [z, ev]
    exact ⟨c, hc, e⟩
  · have : rm g2 b 3 = rm h b 3 := en _ (by omega)
    rw [this]
    exact A3 b hb
end WSX
