/-! ===== all orders, whole ===== -/
section SLA
variable {h g : LH} {d : Nat} {c : Nat → Int32}
theorem al_sw {L : Nat} {x1 : Int32} (hL : L ≤ 400) (es : h.1 271 170 = nI L) (ec : (fun i => h.1 272 i &&& 255) = c) (R : RD h) {Q : tf_Q} (q : ∀ h1 g2 : LH, (∀ e, e ≠ 270 → e ≠ 271 → h1.1 e = h.1 e) → (∀ i, i ≠ 7 → i ≠ 13 → i ≠ 6 → i ≠ 23 → h1.1 270 i = h.1 270 i) → h1.1 270 13 = -1 → h1.1 270 23 = 0 → FTk h1 g2 → PB g2 c L (px_p c L 0) → (∃ bt r, 5 * 0 ≤ bt ∧ TX g2 L bt r) → lx_X9_allLines 298 (tf_Cd 298 (d + 6)) Q 42 [.ref 270, .int x1, .int 1, tf_z, tf_z] [] g2) : tf_Cd 298 (d + 7) 20 [.ref 270, .int x1] h Q := by
  refine en_X9_allLines (by decide) (go_X9_allLines_0 (by decide) ?_)
  have key : ∀ a : Int32, a = nI L → tf_Cd 298 (d + 6) 10 [.ref 270] (w1 (w1 (w1 (w1 (w1 h 270 7 a) 271 170 0) 270 13 (-1)) 270 6 0) 270 23 0) (fun r g => lx_X9_allLines 298 (tf_Cd 298 (d + 6)) Q 40 [.ref 270, .int x1, tf_z, tf_z, tf_z] [] g) := by
    rintro a rfl
    have e7 : (w1 (w1 (w1 (w1 (w1 h 270 7 (nI L)) 271 170 0) 270 13 (-1)) 270 6 0) 270 23 0).1 270 7 = nI L := by rw [w1_at (by decide), w1_at (by decide), w1_at (by decide), w1_ne (by decide), w1_eq]
    have e6 : (w1 (w1 (w1 (w1 (w1 h 270 7 (nI L)) 271 170 0) 270 13 (-1)) 270 6 0) 270 23 0).1 270 6 = nI 0 := by rw [w1_at (by decide), w1_eq]; rfl
    have e13 : (w1 (w1 (w1 (w1 (w1 h 270 7 (nI L)) 271 170 0) 270 13 (-1)) 270 6 0) 270 23 0).1 270 13 = -1 := by rw [w1_at (by decide), w1_at (by decide), w1_eq]
    have e23 : (w1 (w1 (w1 (w1 (w1 h 270 7 (nI L)) 271 170 0) 270 13 (-1)) 270 6 0) 270 23 0).1 270 23 = 0 := w1_eq
    have eo : ∀ e, e ≠ 270 → e ≠ 271 → (w1 (w1 (w1 (w1 (w1 h 270 7 (nI L)) 271 170 0) 270 13 (-1)) 270 6 0) 270 23 0).1 e = h.1 e := fun e h1 h2 => by rw [w1_ne h1, w1_ne h1, w1_ne h1, w1_ne h2, w1_ne h1]
    have ei : ∀ i, i ≠ 7 → i ≠ 13 → i ≠ 6 → i ≠ 23 → (w1 (w1 (w1 (w1 (w1 h 270 7 (nI L)) 271 170 0) 270 13 (-1)) 270 6 0) 270 23 0).1 270 i = h.1 270 i := fun i h1 h2 h3 h4 => by rw [w1_at h4, w1_at h3, w1_at h2, w1_ne (by decide), w1_at h1]
    generalize w1 (w1 (w1 (w1 (w1 h 270 7 (nI L)) 271 170 0) 270 13 (-1)) 270 6 0) 270 23 0 = h1 at e7 e6 e13 e23 eo ei
    refine ((sx_tok (d := d + 4) (c := c) hL (Nat.zero_le _) (by rw [eo 272 (by decide) (by decide)]; exact ec) e7 e6).cj (sp_tok (d := d + 4) hL (Nat.zero_le _) e7 e6)) _ (fun _ g2 p2 => go_X9_allLines_40 (by decide) ?_)
    obtain ⟨⟨p1, p3⟩, -, bt, rt, -, T⟩ := p2
    exact q h1 g2 eo ei e13 e23 p1 p3 ⟨bt, rt, by omega, T⟩
  exact key _ es
theorem sx_alOw {L : Nat} (hL : L ≤ 400) (es : h.1 271 170 = nI L) (ec : (fun i => h.1 272 i &&& 255) = c) (R : RD h) : tf_Sp (d + 7) 20 [.ref 270, .int 0] h (fun v g => (∀ p, (px_all c L 1 80 (px_p c L 0)).2 = some p → v = .int 0 ∧ g.1 270 12 = nI p) ∧ ((px_all c L 1 80 (px_p c L 0)).2 = none → v = .int 1 ∧ g.1 270 13 = px_oS (px_all c L 1 80 (px_p c L 0)).1 (-1) ∧ g.1 270 23 = nI (px_all c L 1 80 (px_p c L 0)).1.length ∧ ONs g (px_all c L 1 80 (px_p c L 0)).1 ∧ WDs g (px_all c L 1 80 (px_p c L 0)).1)) := by
  intro Q q
  refine al_sw hL es ec R (fun h1 g2 eo ei e13 e23 F2 P2 TT => ?_)
  refine al_Ow (h := h1) hL (by rw [eo 272 (by decide) (by decide)]; exact ec) 80 (px_p c L 0) [] (-1) g2 _ (by omega) (Nat.zero_le _) P2 ((R.same (eo 275 (by decide) (by decide))).same (F2.1 275 (by decide))) ((F2.2 13 (by decide) (by decide) (by decide) (by decide)).trans e13) ((F2.2 23 (by decide) (by decide) (by decide) (by decide)).trans e23) (fun i L hi => by cases hi) TT (fun i hi => absurd hi (Nat.not_lt_zero _)) (fun i L hi => by cases hi) F2.ln (fun g p z e => q _ g ⟨fun p2 hp => ?_, fun y => ?_⟩) (fun g z a b n wd => q _ g ⟨fun p2 hp => ?_, fun _ => ⟨rfl, a, b, n, wd⟩⟩)
  · rw [z] at hp
    cases hp
    exact ⟨rfl, e⟩
  · rw [z] at y
    cases y
  · rw [z] at hp
    cases hp
end SLA
