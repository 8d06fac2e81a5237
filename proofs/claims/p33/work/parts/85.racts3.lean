/-! ===== the reference: undo, images, steps, fault ===== -/
section R85
variable {h g : LH} {n k M d : Nat}
theorem sp_unL {u : Nat} (hu : u < 10) {Q : tf_Q} : ∀ (f x : Nat) (g : LH), x + f = 170 → h.1 270 5 = nI u → (∀ e, e ≠ 271 → g.1 e = h.1 e) → g.2 = h.2 → (∀ j, j < x → g.1 271 j = h.1 274 (170 * u + j)) → (∀ j, 170 ≤ j → g.1 271 j = h.1 271 j) → (∀ (g : LH) (x2 : Int32), (∀ e, e ≠ 271 → g.1 e = h.1 e) → g.2 = h.2 → (∀ j, j < 170 → g.1 271 j = h.1 274 (170 * u + j)) → (∀ j, 170 ≤ j → g.1 271 j = h.1 271 j) → lx_X9_undo 298 (tf_Cd 298 d) Q 60 [.ref 270, .int x2] [] g) → lx_X9_undo 298 (tf_Cd 298 d) Q 26 [.ref 270, .int (nI x)] [] g
  | 0, x, g, hx, eu, e1, e2, e3, e4, q => by
    have : x = 170 := by omega
    subst this
    exact go_X9_undo_26 (by decide) ⟨fun _ => q g _ e1 e2 e3 e4, fun z => absurd (nI_le (a := 170) (b := 170) (by omega) (by omega)) z⟩
  | f + 1, x, g, hx, eu, e1, e2, e3, e4, q => by
    refine go_X9_undo_26 (by decide) ⟨fun z => absurd z (nI_ge (a := x) (b := 170) (by omega) (by omega)), fun _ => ?_⟩
    have i2 : (170 : Int32) * g.1 270 5 + nI x = nI (170 * u + x) := by rw [e1 270 (by decide), eu, show (170 : Int32) = nI 170 from rfl, nI_mul, nI_add]
    rw [i2, nI_clamp (by omega), nI_clamp (by omega), nI_1]
    refine ⟨vi_of (by omega) (by omega), vi_of (by omega) (by omega), sp_unL hu f (x + 1) (w1 g 271 x (g.1 274 (170 * u + x))) (by omega) eu (fun e he => by rw [w1_ne he]; exact e1 e he) e2 (fun j hj => ?_) (fun j hj => ?_) q⟩
    · by_cases z : j = x
      · rw [z, w1_eq, e1 274 (by decide)]
      · rw [w1_at z]
        exact e3 j (by omega)
    · rw [w1_at (by omega)]
      exact e4 j hj
theorem rq_undo (R : RI h M) : RQ 70 [] h M := by
  intro Q q
  have R1 := R.w0 (i := 0) (v := 0) (by decide)
  have F0 := OF.w0 (h := h) (i := 0) (v := 0)
  refine en_X9_undo (by decide) (go_X9_undo_0 (by decide) ?_)
  show ((w1 h 270 0 0).1 270 5 = 0 → Q (.int (-1)) (w1 h 270 0 0)) ∧ (¬ (w1 h 270 0 0).1 270 5 = 0 → lx_X9_undo 298 (tf_Cd 298 10) Q 14 [.ref 270, tf_z] [] (w1 h 270 0 0))
  generalize w1 h 270 0 0 = h1 at *
  refine ⟨fun _ => q _ _ ⟨⟨_, rfl⟩, R1, F0⟩, fun c => go_X9_undo_14 (by decide) ?_⟩
  obtain ⟨u, hu, eu, ru⟩ := R1.2.1
  have hu0 : u ≠ 0 := fun z => c (by rw [eu, z]; rfl)
  have e5 : h1.1 270 5 - 1 = nI (u - 1) := by
    rw [eu, show u = u - 1 + 1 by omega]
    exact nI_pred _
  show lx_X9_undo 298 (tf_Cd 298 10) Q 26 [.ref 270, .int 0] [] (w1 h1 270 5 (h1.1 270 5 - 1))
  rw [e5]
  have F1 := OF.w0 (h := h1) (i := 5) (v := nI (u - 1))
  have x5 : (w1 h1 270 5 (nI (u - 1))).1 270 5 = nI (u - 1) := w1_eq
  have x4 : (w1 h1 270 5 (nI (u - 1))).1 274 = h1.1 274 := w1_ne (by decide)
  generalize w1 h1 270 5 (nI (u - 1)) = h2 at *
  refine sp_unL (h := h2) (u := u - 1) (by omega) 170 0 h2 (by omega) x5 (fun _ _ => rfl) rfl (fun j hj => absurd hj (by omega)) (fun _ _ => rfl) (fun g x2 a1 a2 a3 a4 => go_X9_undo_60 (by decide) (q _ _ ⟨⟨_, rfl⟩, ?_, (F0.tr F1).tr (OF.hi a1 a4)⟩))
  obtain ⟨n, k, G⟩ := ru (u - 1) (by omega)
  refine R1.of (Nat.le_refl _) (F1.tr (OF.hi a1 a4)) ⟨n, k, G.sl_to (fun i hi => by rw [a3 i hi, x4])⟩ ⟨u - 1, by omega, by rw [a1 270 (by decide)]; exact x5, fun i hi => ?_⟩
  obtain ⟨n2, k2, G2⟩ := ru i (by omega)
  exact ⟨n2, k2, G2.sl_sl (fun j _ => by rw [a1 274 (by decide), x4])⟩
/-- one row of the reference is as another was -/
def Fc (h g : LH) (a b : Nat) : Prop := (∀ e, e ≠ 271 → g.1 e = h.1 e) ∧ g.2 = h.2 ∧ (∀ j, j < 173 → g.1 271 (173 * b + j) = h.1 271 (173 * a + j)) ∧ ∀ ix, ¬ (173 * b ≤ ix ∧ ix < 173 * b + 173) → g.1 271 ix = h.1 271 ix
theorem sp_cpL {a b : Nat} (ha : a ≤ 4) (hb : b ≤ 4) (hab : a ≠ b) {Q : tf_Q} : ∀ (f x : Nat) (g : LH), x + f = 173 → (∀ e, e ≠ 271 → g.1 e = h.1 e) → g.2 = h.2 → (∀ j, j < x → g.1 271 (173 * b + j) = h.1 271 (173 * a + j)) → (∀ ix, ¬ (173 * b ≤ ix ∧ ix < 173 * b + 173) → g.1 271 ix = h.1 271 ix) → (∀ v g, Fc h g a b → Q v g) → lx_X9_copies 298 (tf_Cd 298 d) Q 2 [.ref 270, .int (nI a), .int (nI b), .int (nI x)] [] g
  | 0, x, g, hx, e1, e2, e3, e4, q => by
    have : x = 173 := by omega
    subst this
    exact go_X9_copies_2 (by decide) ⟨fun _ => go_X9_copies_39 (by decide) (q _ g ⟨e1, e2, e3, e4⟩), fun z => absurd (nI_le (a := 173) (b := 173) (by omega) (by omega)) z⟩
  | f + 1, x, g, hx, e1, e2, e3, e4, q => by
    refine go_X9_copies_2 (by decide) ⟨fun z => absurd z (nI_ge (a := x) (b := 173) (by omega) (by omega)), fun _ => ?_⟩
    have i1 : ∀ s, (173 : Int32) * nI s + nI x = nI (173 * s + x) := fun s => by rw [show (173 : Int32) = nI 173 from rfl, nI_mul, nI_add]
    rw [i1, i1, nI_clamp (by omega), nI_clamp (by omega), nI_1]
    refine ⟨vi_of (by omega) (by omega), vi_of (by omega) (by omega), sp_cpL ha hb hab f (x + 1) (w1 g 271 (173 * b + x) (g.1 271 (173 * a + x))) (by omega) (fun e he => by rw [w1_ne he]; exact e1 e he) e2 (fun j hj => ?_) (fun ix hx => ?_) q⟩
    · by_cases z : j = x
      · rw [z, w1_eq, e4 _ (by omega)]
      · rw [w1_at (by omega)]
        exact e3 j (by omega)
    · rw [w1_at (by omega)]
      exact e4 ix hx
theorem sp_cp {a b : Nat} (ha : a ≤ 4) (hb : b ≤ 4) (hab : a ≠ b) : tf_Sp (d + 1) 112 [.ref 270, .int (nI a), .int (nI b)] h (fun _ g => Fc h g a b) := fun Q q => en_X9_copies (by decide) (go_X9_copies_0 (by decide) (sp_cpL ha hb hab 173 0 h (by omega) (fun _ _ => rfl) rfl (fun j hj => absurd hj (by omega)) (fun _ _ => rfl) q))
/-- rows and texts -/
def Ft3 (h g : LH) (a b : Nat) : Prop := (∀ e, e ≠ 271 → e ≠ 272 → g.1 e = h.1 e) ∧ g.2 = h.2 ∧ (∀ j, j < 173 → g.1 271 (173 * b + j) = h.1 271 (173 * a + j)) ∧ ∀ ix, ¬ (173 * b ≤ ix ∧ ix < 173 * b + 173) → g.1 271 ix = h.1 271 ix
theorem sp_ctL {a b : Nat} (ha : a ≤ 3) (hb : b ≤ 3) {Q : tf_Q} : ∀ (f x : Nat) (g : LH), x + f = 400 → Ft3 h g a b → (∀ v g, Ft3 h g a b → Q v g) → lx_X9_copiesText 298 (tf_Cd 298 d) Q 8 [.ref 270, .int (nI a), .int (nI b), .int (nI x)] [] g
  | 0, x, g, hx, e1, q => by
    have : x = 400 := by omega
    subst this
    exact go_X9_copiesText_8 (by decide) ⟨fun _ => go_X9_copiesText_45 (by decide) (q _ g e1), fun z => absurd (nI_le (a := 400) (b := 400) (by omega) (by omega)) z⟩
  | f + 1, x, g, hx, e1, q => by
    refine go_X9_copiesText_8 (by decide) ⟨fun z => absurd z (nI_ge (a := x) (b := 400) (by omega) (by omega)), fun _ => ?_⟩
    have i1 : ∀ s, (400 : Int32) * nI s + nI x = nI (400 * s + x) := fun s => by rw [show (400 : Int32) = nI 400 from rfl, nI_mul, nI_add]
    rw [i1, i1, nI_clamp (by omega), nI_clamp (by omega), nI_1]
    refine ⟨vi_of (by omega) (by omega), vi_of (by omega) (by omega), sp_ctL ha hb f (x + 1) (w1 g 272 (400 * b + x) (vp_nar .byte (g.1 272 (400 * a + x)))) (by omega) ⟨fun e h1 h2 => by rw [w1_ne h2]; exact e1.1 e h1 h2, e1.2.1, fun j hj => by rw [w1_ne (by decide)]; exact e1.2.2.1 j hj, fun ix hx => by rw [w1_ne (by decide)]; exact e1.2.2.2 ix hx⟩ q⟩
theorem sp_ct {a b : Nat} (ha : a ≤ 3) (hb : b ≤ 3) (hab : a ≠ b) : tf_Sp (d + 2) 113 [.ref 270, .int (nI a), .int (nI b)] h (fun _ g => Ft3 h g a b) := fun Q q => en_X9_copiesText (by decide) (go_X9_copiesText_0 (by decide) (sp_cp (d := d) (by omega) (by omega) hab _ (fun _ g p => go_X9_copiesText_6 (by decide) (sp_ctL ha hb 400 0 g (by omega) ⟨fun e h1 _ => p.1 e h1, p.2⟩ q))))
/-- the class's part stays -/
def CFm (h g : LH) : Prop := ∀ e, e < 270 → g.1 e = h.1 e
theorem OF.cf (F : OF h g) : CFm h g := F.1
theorem rq_image (R : RI h M) (x : Int32) : tf_Sp 11 114 [.ref 270, .int x] h (fun v g => v = .int (bI (rf_in x 0 2)) ∧ RI g M ∧ CFm h g ∧ (rf_in x 0 2 = false → OF h g) ∧ (∀ j, j < 3 → x = nI j → (∀ i, g.1 273 i = if i = j then 1 else h.1 273 i) ∧ g.1 271 170 = h.1 271 170 ∧ g.1 271 (173 * (j + 1) + 170) = h.1 271 170 ∧ ∀ i, i < 3 → i ≠ j → g.1 271 (173 * (i + 1) + 170) = h.1 271 (173 * (i + 1) + 170))) := by
  intro Q q
  have R1 := R.w0 (i := 0) (v := 0) (by decide)
  have F0 := OF.w0 (h := h) (i := 0) (v := 0)
  refine en_X9_image (by decide) (go_X9_image_0 (by decide) ?_)
  show tf_Cd 298 10 _ _ (w1 h 270 0 0) _
  have e3 : (w1 h 270 0 0).1 273 = h.1 273 := w1_ne (by decide)
  have e1 : (w1 h 270 0 0).1 271 = h.1 271 := w1_ne (by decide)
  generalize w1 h 270 0 0 = h1 at *
  refine sx_in (d := 9) _ _ _ _ (go_X9_image_11 (by decide) ⟨fun c => ?_, fun c => go_X9_image_16 (by decide) ?_⟩)
  · rw [bI_0] at c
    refine q _ _ ⟨by rw [c]; rfl, R1, F0.1, fun _ => F0, fun j hj ej => ?_⟩
    exfalso
    unfold rf_in at c
    rw [ej] at c
    have c1 : ¬ nI j < 0 := nI_pos (by omega)
    have c2 : ¬ (2 : Int32) < nI j := nI_nlt (a := 2) (by omega) (by omega)
    simp [c1, c2] at c
  · rw [bI_0, Bool.not_eq_false] at c
    obtain ⟨j, -, hj, ej⟩ := rf_in_t (l := 0) (u := 2) (by omega) c (by omega)
    subst ej
    rw [nI_1]
    refine sp_ct (d := 8) (a := 0) (b := j + 1) (by omega) (by omega) (by omega) _ (fun v g p => go_X9_image_24 (by decide) ⟨vi_of (by omega) (by omega), ?_⟩)
    rw [nI_clamp (by omega)]
    obtain ⟨p1, p2, p3, p4⟩ := p
    obtain ⟨n, k, G⟩ := R1.1
    have x3 : ∀ i, (w1 g 273 j (vp_nar .boolean 1)).1 273 i = if i = j then 1 else h.1 273 i := by
      intro i
      by_cases z : i = j
      · rw [if_pos z, z, w1_eq]
        rfl
      · rw [if_neg z, w1_at z, p1 273 (by decide) (by decide), e3]
    have x1 : (w1 g 273 j (vp_nar .boolean 1)).1 271 = g.1 271 := w1_ne (by decide)
    have x0 : ∀ e, e ≠ 273 → (w1 g 273 j (vp_nar .boolean 1)).1 e = g.1 e := fun e he => w1_ne he
    show Q _ (w1 g 273 j (vp_nar .boolean 1))
    generalize w1 g 273 j (vp_nar .boolean 1) = g2 at *
    have lo : ∀ ix, ix < 173 → g2.1 271 ix = h1.1 271 ix := fun ix hx => by rw [x1, p4 ix (by omega)]
    have hi : ∀ i, i < 3 → i ≠ j → ∀ y, y < 173 → g2.1 271 (173 * (i + 1) + y) = h1.1 271 (173 * (i + 1) + y) := fun i h1 h2 y hy => by rw [x1, p4 _ (by omega)]
    have new : ∀ y, y < 173 → g2.1 271 (173 * (j + 1) + y) = h1.1 271 y := fun y hy => by rw [x1, p3 y hy, Nat.mul_zero, Nat.zero_add]
    refine q _ _ ⟨by rw [c]; rfl, ⟨⟨n, k, G.cong (fun i hi => lo i (by omega))⟩, R1.2.1.same (by rw [x0 270 (by decide), p1 270 (by decide) (by decide)]) (by rw [x0 274 (by decide), p1 274 (by decide) (by decide)]), fun i hi3 hs => ?_, ?_, fun i hi => by rw [x0 275 (by decide), p1 275 (by decide) (by decide)]; exact R1.2.2.2.2 i hi⟩, fun e he => by rw [x0 e (by omega), p1 e (by omega) (by omega)]; exact F0.1 e he, fun z => absurd (c.symm.trans z) (by decide), fun i hi3 ei => ?_⟩
    · by_cases z : i = j
      · subst z
        obtain ⟨s, hs1, hs2⟩ := R1.2.2.2.1
        exact ⟨⟨n, k, G.cong (fun y hy => by rw [sl_at]; exact new y (by omega))⟩, s, hs1, by rw [new 170 (by omega)]; exact hs2⟩
      · rw [x3, if_neg z, ← e3] at hs
        obtain ⟨⟨n2, k2, G2⟩, s, hs1, hs2⟩ := R1.2.2.1 i hi3 hs
        exact ⟨⟨n2, k2, G2.sl_sl (fun y hy => hi i hi3 z y (by omega))⟩, s, hs1, by rw [hi i hi3 z 170 (by omega)]; exact hs2⟩
    · obtain ⟨s, hs1, hs2⟩ := R1.2.2.2.1
      exact ⟨s, hs1, by rw [lo _ (by omega)]; exact hs2⟩
    · have : j = i := (nI_eq (by omega) (by omega)).mp ei
      subst this
      refine ⟨x3, by rw [lo 170 (by omega), e1], by rw [new 170 (by omega), e1], fun i2 h1 h2 => by rw [hi i2 h1 h2 170 (by omega), e1]⟩
theorem rq_again (R : RI h M) (x : Int32) : tf_Sp 11 115 [.ref 270, .int x] h (fun v g => (v = .int (bI (rf_in x 0 2 && !decide (h.1 273 x.toNatClampNeg = 0)))) ∧ RI g M ∧ CFm h g ∧ g.1 273 = h.1 273 ∧ ((rf_in x 0 2 && !decide (h.1 273 x.toNatClampNeg = 0)) = false → OF h g) ∧ (∀ j, j < 3 → x = nI j → h.1 273 j ≠ 0 → g.1 271 170 = h.1 271 (173 * (j + 1) + 170)) ∧ ∀ i, i < 3 → g.1 271 (173 * (i + 1) + 170) = h.1 271 (173 * (i + 1) + 170)) := by
  intro Q q
  have R1 := R.w0 (i := 0) (v := 0) (by decide)
  have F0 := OF.w0 (h := h) (i := 0) (v := 0)
  refine en_X9_again (by decide) (go_X9_again_0 (by decide) ?_)
  show tf_Cd 298 10 _ _ (w1 h 270 0 0) _
  have e3 : (w1 h 270 0 0).1 273 = h.1 273 := w1_ne (by decide)
  have e1 : (w1 h 270 0 0).1 271 = h.1 271 := w1_ne (by decide)
  generalize w1 h 270 0 0 = h1 at *
  have e23 : (rf_in x 0 2 && !decide (h.1 273 x.toNatClampNeg = 0)) = false → lx_X9_again 298 (tf_Cd 298 10) Q 23 [.ref 270, .int x] [] h1 := by
    intro e
    refine go_X9_again_23 (by decide) (q _ _ ⟨by rw [e]; rfl, R1, F0.1, e3, fun _ => F0, fun j hj ej hs => ?_, fun i hi => by rw [e1]⟩)
    exfalso
    have c1 : ¬ nI j < 0 := nI_pos (by omega)
    have c2 : ¬ (2 : Int32) < nI j := nI_nlt (a := 2) (by omega) (by omega)
    rw [ej, nI_clamp (by omega)] at e
    simp [rf_in, c1, c2, hs] at e
  refine sx_in (d := 9) _ _ _ _ (go_X9_again_11 (by decide) ⟨fun c => e23 ?_, fun c => ?_⟩)
  · rw [bI_0] at c
    simp [c]
  · rw [bI_0, Bool.not_eq_false] at c
    obtain ⟨j, -, hj, ej⟩ := rf_in_t (l := 0) (u := 2) (by omega) c (by omega)
    subst ej
    have cj : (nI j).toNatClampNeg = j := nI_clamp (by omega)
    rw [cj] at e23 q ⊢
    refine ⟨vi_of (by omega) (by omega), fun c2 => e23 ?_, fun c2 => go_X9_again_25 (by decide) ?_⟩
    · rw [e3] at c2
      simp [c2]
    rw [nI_1]
    obtain ⟨⟨n, k, G⟩, s, hs1, hs2⟩ := R1.2.2.1 j (by omega) c2
    refine sp_ct (d := 8) (a := j + 1) (b := 0) (by omega) (by omega) (by omega) _ (fun v g p => go_X9_again_33 (by decide) ?_)
    obtain ⟨p1, p2, p3, p4⟩ := p
    have x5 : (w1 g 270 5 0).1 270 5 = nI 0 := w1_eq
    have x0 : ∀ e, e ≠ 270 → (w1 g 270 5 0).1 e = g.1 e := fun e he => w1_ne he
    show Q _ (w1 g 270 5 0)
    generalize w1 g 270 5 0 = g2 at *
    have x1 : g2.1 271 = g.1 271 := x0 271 (by decide)
    have x3 : g2.1 273 = h1.1 273 := by rw [x0 273 (by decide), p1 273 (by decide) (by decide)]
    have hi : ∀ ix, 173 ≤ ix → g2.1 271 ix = h1.1 271 ix := fun ix h1 => by rw [x1, p4 _ (by omega)]
    have new : ∀ y, y < 173 → g2.1 271 y = h1.1 271 (173 * (j + 1) + y) := fun y hy => by
      have := p3 y hy
      rw [Nat.mul_zero, Nat.zero_add] at this
      rw [x1, this]
    have ans : (rf_in (nI j) 0 2 && !decide (h.1 273 j = 0)) = true := by
      rw [e3] at c2
      simp [c, c2]
    refine q _ _ ⟨by rw [ans]; rfl, ⟨⟨n, k, G.sl_to (fun i hi => new i (by omega))⟩, ⟨0, by omega, x5, fun i hi => absurd hi (by omega)⟩, fun i hi3 hs => ?_, ⟨s, hs1, by rw [Nat.zero_add, new 170 (by omega)]; exact hs2⟩, fun i hi => by rw [x0 275 (by decide), p1 275 (by decide) (by decide)]; exact R1.2.2.2.2 i hi⟩, fun e he => by rw [x0 e (by omega), p1 e (by omega) (by omega)]; exact F0.1 e he, x3.trans e3, fun z => absurd (ans.symm.trans z) (by decide), fun i hi3 ei hs => ?_, fun i hi3 => by rw [hi _ (by omega), e1]⟩
    · rw [x3] at hs
      obtain ⟨⟨n2, k2, G2⟩, s2, hs3, hs4⟩ := R1.2.2.1 i hi3 hs
      exact ⟨⟨n2, k2, G2.sl_sl (fun y hy => hi _ (by omega))⟩, s2, hs3, by rw [hi _ (by omega)]; exact hs4⟩
    · have : j = i := (nI_eq (by omega) (by omega)).mp ei
      subst this
      rw [new 170 (by omega), e1]
theorem rq_fault (R : RI h M) (x : Int32) : RQ 25 [.int x] h M := by
  intro Q q
  have R1 := R.w0 (i := 0) (v := 0) (by decide)
  have F0 := OF.w0 (h := h) (i := 0) (v := 0)
  exact en_X9_fault (by decide) (go_X9_fault_0 (by decide) ⟨fun _ => go_X9_fault_20 (by decide) (go_X9_fault_28 (by decide) (q _ _ ⟨⟨_, rfl⟩, R1, F0⟩)), fun _ => go_X9_fault_28 (by decide) (q _ _ ⟨⟨_, rfl⟩, R1, F0⟩)⟩)
theorem rq_steps (R : RI h M) (hM : M ≤ 18000000) (x : Int32) : RQ 111 [.int x] h M := by
  intro Q q
  have R1 := R.w0 (i := 0) (v := 0) (by decide)
  have F0 := OF.w0 (h := h) (i := 0) (v := 0)
  refine en_X9_steps (by decide) (go_X9_steps_0 (by decide) ?_)
  show tf_Cd 298 10 _ _ (w1 h 270 0 0) _
  generalize w1 h 270 0 0 = h1 at *
  refine sx_in (d := 9) _ _ _ _ (go_X9_steps_11 (by decide) ⟨fun c => q _ _ ⟨⟨_, rfl⟩, R1, F0⟩, fun c => go_X9_steps_16 (by decide) ?_⟩)
  obtain ⟨n, k, G⟩ := R1.1
  refine sp_cp (d := 9) (a := 0) (b := 4) (by omega) (by omega) (by omega) _ (fun v g p => go_X9_steps_22 (by decide) ?_)
  obtain ⟨p1, p2, p3, p4⟩ := p
  have Gg : GI g n k M := G.cong (fun i hi => p4 i (by omega))
  refine sp_pt (d := 3) (N := 10000) (M := M) (by omega) (by omega) (Gg.ru (v := x)) _ (fun v4 g4 q4 => ?_)
  obtain ⟨x4, e, G4, F4⟩ := q4
  subst e
  refine go_X9_steps_36 (by decide) (sp_cp (d := 9) (a := 4) (b := 0) (by omega) (by omega) (by omega) _ (fun v5 g5 p5 => go_X9_steps_43 (by decide) (q _ _ ?_)))
  obtain ⟨t1, t2, t3, t4⟩ := p5
  have w2 : ∀ ix, ix ≠ 2 → (w1 g 271 2 x).1 271 ix = g.1 271 ix := fun ix hx => w1_at hx
  have wn : ∀ e, e ≠ 271 → (w1 g 271 2 x).1 e = g.1 e := fun e he => w1_ne he
  have F4' : PF (w1 g 271 2 x) g4 := F4
  generalize w1 g 271 2 x = gw at *
  have low : ∀ y, y < 173 → g5.1 271 y = h1.1 271 y := fun y hy => by
    have a := t3 y hy
    rw [Nat.mul_zero, Nat.zero_add] at a
    rw [a, F4'.2.2.2 _ (Or.inr (Or.inr (Or.inr (Or.inl (by omega))))), w2 _ (by omega), p3 y hy, Nat.mul_zero, Nat.zero_add]
  have mid : ∀ y, 173 ≤ y → y < 692 → g5.1 271 y = h1.1 271 y := fun y h1 h2 => by
    rw [t4 y (by omega), F4'.2.2.2 _ (Or.inr (Or.inr (Or.inr (Or.inl (by omega))))), w2 _ (by omega), p4 y (by omega)]
  have cells : ∀ e, e ≠ 271 → ¬ (281 ≤ e ∧ e ≤ 286) → e ≠ 270 → g5.1 e = h1.1 e := fun e h1 h2 h3 => by rw [t1 e h1, F4'.1 e h1 h2 h3, wn e h1, p1 e h1]
  have F5 : OF h1 g5 := ⟨fun e he => cells e (by omega) (by omega) (by omega), fun ix h1 h2 => by
    rcases Nat.lt_or_ge ix 173 with z | z
    · exact low ix z
    · exact mid ix z h2, cells 272 (by decide) (by decide) (by decide), cells 273 (by decide) (by decide) (by decide), cells 275 (by decide) (by decide) (by decide)⟩
  refine ⟨⟨_, rfl⟩, R1.of (Nat.le_refl _) F5 ⟨n, k, G.cong (fun i hi => low i (by omega))⟩ (R1.2.1.same ?_ (cells 274 (by decide) (by decide) (by decide))), F0.tr F5⟩
  rw [t1 270 (by decide), F4'.2.2.1 5 (by decide) (by decide), wn 270 (by decide), p1 270 (by decide)]
end R85
