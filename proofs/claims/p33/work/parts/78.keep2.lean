/-! ===== the grid of the reference, and that a pivot keeps it ===== -/
section RK8
variable {g : LH} {n k M : Nat}
/-- arcs and supplies in their ranges -/
def AG (g : LH) (n k : Nat) : Prop := (∀ a, a < k → rm g a 0 ≠ rm g a 1) ∧ (∀ a, a < k → ∃ v b, v ≤ b ∧ b < 100 ∧ rm g a 4 = nI v ∧ rm g a 2 = nI b) ∧ (∀ a, a < k → ∃ c, c ≤ 198 ∧ rm g a 3 + 99 = nI c) ∧ (∀ p, p < n → ∃ s, s ≤ 198 ∧ g.1 271 (44 + p) + 99 = nI s)
/-- debts: M tells how many pivots there were -/
def DB (g : LH) (n M : Nat) : Prop := ∀ p, p < n → ∃ v, v ≤ 2000 + 99 * M ∧ g.1 271 (65 + p) = nI v ∧ (g.1 271 (58 + p) = 1 ∨ g.1 271 (58 + p) = -1)
def GN (g : LH) : Prop := ∃ v, v ≤ 12 ∧ g.1 271 7 = nI v
def GI (g : LH) (n k M : Nat) : Prop := RM g n k ∧ CP g n k ∧ RS g ∧ FB g k ∧ AG g n k ∧ DB g n M ∧ GN g
theorem GI.mono {M2 : Nat} (G : GI g n k M) (h : M ≤ M2) : GI g n k M2 := ⟨G.1, G.2.1, G.2.2.1, G.2.2.2.1, G.2.2.2.2.1, fun p hp => by
  obtain ⟨v, hv, e⟩ := G.2.2.2.2.2.1 p hp
  exact ⟨v, by omega, e⟩, G.2.2.2.2.2.2⟩
/-- the grid is all in the first 170 numbers of the row -/
theorem GI.cong {h : LH} (G : GI h n k M) (e : ∀ i, i < 170 → g.1 271 i = h.1 271 i) : GI g n k M := by
  obtain ⟨R, C, S, B, ⟨A1, A2, A3, A4⟩, D, N⟩ := G
  have hn := R.1
  have er : ∀ a w, a < k → w < 7 → rm g a w = rm h a w := fun a w ha hw => e _ (by omega)
  have eh : ∀ a, a < k → rf_hangs g a = rf_hangs h a := fun a ha => by
    unfold rf_hangs
    rw [er a 5 ha (by omega)]
  refine ⟨⟨R.1, by rw [e 0 (by omega)]; exact R.2.1, by rw [e 1 (by omega)]; exact R.2.2.1, fun a ha => by rw [er a 0 ha (by omega), er a 1 ha (by omega)]; exact R.2.2.2 a ha⟩, ?_, ?_, fun a ha => by rw [er a 2 ha (by omega), er a 5 ha (by omega), er a 4 ha (by omega)]; exact B a ha, ⟨fun a ha => by rw [er a 0 ha (by omega), er a 1 ha (by omega)]; exact A1 a ha, fun a ha => by rw [er a 4 ha (by omega), er a 2 ha (by omega)]; exact A2 a ha, fun a ha => by rw [er a 3 ha (by omega)]; exact A3 a ha, fun p hp => by rw [e _ (by omega)]; exact A4 p hp⟩, fun p hp => by rw [e (65 + p) (by omega), e (58 + p) (by omega)]; exact D p hp, by unfold GN; rw [e 7 (by omega)]; exact N⟩
  · intro S hS hex
    rcases C S hS hex with ⟨p, h1, h2, h3⟩ | ⟨a, p, q, h1, h2, h3, h4, h5, h6, h7⟩
    · exact Or.inl ⟨p, h1, h2, by rw [e _ (by omega)]; exact h3⟩
    · exact Or.inr ⟨a, p, q, h1, by rw [eh a h1]; exact h2, h3, h4, h5, h6, by rw [er a 0 h1 (by omega), er a 1 h1 (by omega)]; exact h7⟩
  · unfold RS
    rw [e 6 (by omega)]
    exact S
theorem CP.hang {g2 : LH} (C : CP g n k) (hR : ∀ b, b < k → rm g2 b 0 = rm g b 0 ∧ rm g2 b 1 = rm g b 1) (hH : ∀ b, b < k → rf_hangs g b = true → rf_hangs g2 b = true) (hL : ∀ p, p < n → g.1 271 (51 + p) = 1 → g2.1 271 (51 + p) = 1) : CP g2 n k := by
  intro S hS hex
  rcases C S hS hex with ⟨p, h1, h2, h3⟩ | ⟨a, p, q, h1, h2, h3, h4, h5, h6, h7⟩
  · exact Or.inl ⟨p, h1, h2, hL p h1 h3⟩
  · exact Or.inr ⟨a, p, q, h1, hH a h1 h2, h3, h4, h5, h6, by rw [(hR a h1).1, (hR a h1).2]; exact h7⟩
theorem lc_271 (T : LT g n k) {a x y : Nat} (ha : a < k) (hx : x ≤ n) (hy : y ≤ n) : (lc g a x y).1 271 = g.1 271 := (lc_ok T ha hx hy).2.1.1 271 (by decide) (by decide) (by decide)
/-- the rooms as numbers -/
theorem lc_room (T : LT g n k) (A : AG g n k) (D : DB g n M) (hM : M ≤ 20000000) {a x y i : Nat} (ha : a < k) (hx : x ≤ n) (hy : y ≤ n) (hi : i < lc_n g x y) : (∃ b, b < k ∧ (lc g a x y).1 285 i = nI b ∧ ∃ v bd, v ≤ bd ∧ bd < 100 ∧ rm g b 4 = nI v ∧ rm g b 2 = nI bd ∧ rr (lc g a x y) i = nI (if (lc g a x y).1 286 i = 0 then v else bd - v)) ∨ ∃ p, p < n ∧ (lc g a x y).1 285 i = nI (100 + p) ∧ ∃ v, v ≤ 2000 + 99 * M ∧ g.1 271 (65 + p) = nI v ∧ rr (lc g a x y) i = nI (if (lc g a x y).1 286 i = 0 then v else 1000000) := by
  have hn := T.1.1
  have e271 := lc_271 T ha hx hy
  have r : ∀ b w, rm (lc g a x y) b w = rm g b w := fun b w => by unfold rm; rw [e271]
  rcases lc_ed T ha hx hy hi with ⟨b, hb, eb⟩ | ⟨p, hp, ep⟩
  · obtain ⟨v, bd, h1, h2, h3, h4⟩ := A.2.1 b hb
    refine Or.inl ⟨b, hb, eb, v, bd, h1, h2, h3, h4, ?_⟩
    unfold rr
    rw [eb, loan_a (by omega), if_neg Bool.false_ne_true, nI_clamp (by omega), r, r, h3, h4, nI_sub h1]
    split <;> rfl
  · obtain ⟨v, h1, h2, -⟩ := D p hp
    refine Or.inr ⟨p, hp, ep, v, h1, h2, ?_⟩
    unfold rr
    rw [ep, loan_p (by omega), if_pos rfl, ix65, nI_clamp (by omega), e271, h2]
    split <;> rfl
/-- how much flows: at most 99, and nowhere more than the room -/
theorem lc_dl (T : LT g n k) (A : AG g n k) (D : DB g n M) (hM : M ≤ 20000000) {a x y m : Nat} (ha : a < k) (hx : x ≤ n) (hy : y ≤ n) (hm : m < lc_n g x y) (er : rr (lc g a x y) m = rlr (lc g a x y) (lc_n g x y) 0 1000000) : ∃ dl, dl ≤ 99 ∧ rlr (lc g a x y) (lc_n g x y) 0 1000000 = nI dl ∧ ∀ i r, i < lc_n g x y → r < 2 ^ 31 → rr (lc g a x y) i = nI r → dl ≤ r := by
  have rm1 : ∃ r, r < 2 ^ 31 ∧ rr (lc g a x y) m = nI r := by
    rcases lc_room T A D hM ha hx hy hm with ⟨b, -, -, v, bd, h1, h2, -, -, h5⟩ | ⟨p, -, -, v, h1, -, h3⟩
    · exact ⟨_, by split <;> omega, h5⟩
    · exact ⟨_, by split <;> omega, h3⟩
  obtain ⟨dl, hdl, e⟩ := rm1
  have eq : rlr (lc g a x y) (lc_n g x y) 0 1000000 = nI dl := er.symm.trans e
  have all : ∀ i r, i < lc_n g x y → r < 2 ^ 31 → rr (lc g a x y) i = nI r → dl ≤ r := by
    intro i r hi hr e2
    have := (rlr_le (g := lc g a x y) (lc_n g x y) 0 1000000).2 i (Nat.zero_le _) (by omega)
    rw [eq, e2] at this
    exact (nI_leI hdl hr).mp this
  refine ⟨dl, ?_, eq, all⟩
  have hI : df g x - df g (lc_z g x y) < lc_n g x y := by unfold lc_n; omega
  have hn := T.1.1
  rcases lc_room T A D hM ha hx hy hI with ⟨b, -, -, v, bd, h1, h2, -, -, h5⟩ | ⟨p, hp, h0, -⟩
  · have := all _ _ hI (by split <;> omega) h5
    split at this <;> omega
  · have := (nI_eq (by omega) (by omega)).mp (h0.symm.trans lc_at)
    omega
theorem nI_subneg {a b : Nat} (h : b ≤ a) : nI a + -nI b = nI (a - b) := by
  rw [← Int32.sub_eq_add_neg]
  exact nI_sub h
/-- arcs after the flows -/
theorem tn3_arc (T : LT g n k) (A : AG g n k) (D : DB g n M) (hM : M ≤ 20000000) {a x y m : Nat} (ha : a < k) (hx : x ≤ n) (hy : y ≤ n) (ho : rf_off g a = true) (hm : m < lc_n g x y) (er : rr (lc g a x y) m = rlr (lc g a x y) (lc_n g x y) 0 1000000) (ex : (if rm g a 5 = 0 then rm g a 0 else rm g a 1) = nI x) {b : Nat} (hb : b < k) : ∃ v bd, v ≤ bd ∧ bd < 100 ∧ rm (tn3 g a x y) b 4 = nI v ∧ rm g b 2 = nI bd ∧ ((lc g a x y).1 285 m = nI b → v = 0 ∨ v = bd) ∧ (rm g b 5 ≠ 2 → b ≠ a → rm (tn3 g a x y) b 4 = rm g b 4) ∧ (b = a → (lc g a x y).1 285 m = nI a → rm g a 0 ≠ rm g a 1 → FB g k → (rm g a 5 = 0 → v = bd) ∧ (rm g a 5 = 1 → v = 0)) := by
  have hn := T.1.1
  have e271 := lc_271 T ha hx hy
  obtain ⟨dl, hdl, edl, all⟩ := lc_dl T A D hM ha hx hy hm er
  obtain ⟨v, bd, h1, h2, h3, h4⟩ := A.2.1 b hb
  have hinj : ∀ m1 m2, m1 < lc_n g x y → m2 < lc_n g x y → fx ((lc g a x y).1 285 m1) = fx ((lc g a x y).1 285 m2) → m1 = m2 := fun m1 m2 q1 q2 e => lc_inj T ha hx hy ho q1 q2 (fx_inj hn.2.1 hn.2.2 (lc_ed T ha hx hy q1) (lc_ed T ha hx hy q2) e)
  by_cases hc : ∃ i, i < lc_n g x y ∧ (lc g a x y).1 285 i = nI b
  · obtain ⟨i, hi, ei⟩ := hc
    have fi : fx ((lc g a x y).1 285 i) = 72 + 7 * b + 4 := by rw [ei]; exact fx_a (by omega)
    have val := fls_at (dl := nI dl) (m := i) (lc_n g x y) 0 (lc g a x y) (Nat.zero_le _) (by omega) (fun m2 _ q2 e => hinj m2 i (by omega) hi e)
    rw [fi, e271] at val
    have val2 : rm (tn3 g a x y) b 4 = rm g b 4 + (if (lc g a x y).1 286 i = 0 then -nI dl else nI dl) := by
      unfold tn3
      rw [edl]
      exact val
    have hroom : rr (lc g a x y) i = nI (if (lc g a x y).1 286 i = 0 then v else bd - v) := by
      rcases lc_room T A D hM ha hx hy hi with ⟨b2, hb2, q0, v2, bd2, q1, q2, q3, q4, q5⟩ | ⟨p, hp, q0, -⟩
      · have : b2 = b := (nI_eq (by omega) (by omega)).mp (q0.symm.trans ei)
        subst this
        have ev : v2 = v := (nI_eq (by omega) (by omega)).mp (q3.symm.trans h3)
        have eb : bd2 = bd := (nI_eq (by omega) (by omega)).mp (q4.symm.trans h4)
        rw [← ev, ← eb]
        exact q5
      · have := (nI_eq (by omega) (by omega)).mp (q0.symm.trans ei)
        omega
    have le := all i _ hi (by split <;> omega) hroom
    have mi : (lc g a x y).1 285 m = nI b → m = i := fun e => lc_inj T ha hx hy ho hm hi (e.trans ei.symm)
    have eqm : (lc g a x y).1 285 m = nI b → dl = (if (lc g a x y).1 286 i = 0 then v else bd - v) := by
      intro e
      have z := mi e
      rw [z, edl, hroom] at er
      exact ((nI_eq (by split <;> omega) (by omega)).mp er).symm
    by_cases c : (lc g a x y).1 286 i = 0
    · rw [if_pos c] at val2 le eqm
      rw [h3, nI_subneg le] at val2
      refine ⟨v - dl, bd, by omega, h2, val2, h4, fun e => Or.inl (by have := eqm e; omega), fun q1 q2 => ?_, fun q1 q2 q3 q4 => ⟨fun q5 => ?_, fun q5 => ?_⟩⟩
      · have hh := lc_hang T ha hx hy hi hb ei q2
        unfold rf_hangs at hh
        exact absurd (of_decide_eq_true hh) q1
      · exfalso
        have hII : i = df g x - df g (lc_z g x y) := lc_inj T ha hx hy ho hi (by unfold lc_n; omega) (ei.trans (by rw [q1]; exact lc_at.symm))
        have al := lc_al (g := g) (a := a) (x := x) (y := y) (by omega)
        rw [← hII, c] at al
        have al2 : decide (rm g a 0 = nI x) = false := bI_0.mp al.symm
        rw [if_pos q5] at ex
        rw [decide_eq_true ex] at al2
        cases al2
      · have e := eqm (q2.trans (by rw [q1]))
        omega
    · rw [if_neg c] at val2 le eqm
      rw [h3, nI_add] at val2
      refine ⟨v + dl, bd, by omega, h2, val2, h4, fun e => Or.inr (by have := eqm e; omega), fun q1 q2 => ?_, fun q1 q2 q3 q4 => ⟨fun q5 => ?_, fun q5 => ?_⟩⟩
      · have hh := lc_hang T ha hx hy hi hb ei q2
        unfold rf_hangs at hh
        exact absurd (of_decide_eq_true hh) q1
      · have e := eqm (q2.trans (by rw [q1]))
        omega
      · exfalso
        have hII : i = df g x - df g (lc_z g x y) := lc_inj T ha hx hy ho hi (by unfold lc_n; omega) (ei.trans (by rw [q1]; exact lc_at.symm))
        have al := lc_al (g := g) (a := a) (x := x) (y := y) (by omega)
        rw [← hII] at al
        have al2 : decide (rm g a 0 = nI x) = true := by
          cases z : decide (rm g a 0 = nI x) with
          | true => rfl
          | false => rw [z] at al; exact absurd al c
        rw [if_neg (by rw [q5]; decide)] at ex
        exact q3 ((of_decide_eq_true al2).trans ex.symm)
  · have val := fls_out (dl := nI dl) (ix := 72 + 7 * b + 4) (lc_n g x y) 0 (lc g a x y) (fun m2 _ q2 e => hc ⟨m2, by omega, by
      rcases lc_ed T ha hx hy (show m2 < lc_n g x y by omega) with ⟨b2, hb2, eb⟩ | ⟨p, hp, ep⟩
      · rw [eb, fx_a (by omega)] at e
        rw [eb, show b2 = b by omega]
      · rw [ep, fx_p (by omega)] at e
        omega⟩)
    rw [e271] at val
    have val2 : rm (tn3 g a x y) b 4 = rm g b 4 := by
      unfold tn3
      rw [edl]
      exact val
    refine ⟨v, bd, h1, h2, val2.trans h3, h4, fun e => absurd ⟨m, hm, e⟩ hc, fun _ _ => val2, fun q1 q2 => absurd ⟨m, hm, q2.trans (by rw [q1])⟩ hc⟩
end RK8
