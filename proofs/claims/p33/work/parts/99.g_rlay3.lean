/-! ===== the reference: lay returns ===== -/
section RLW
variable {h g : LH} {d M : Nat}
/-- what reading a text changes: not the row, but the text's length -/
def FA (h g : LH) : Prop := (∀ e, e < 275 → e ≠ 270 → e ≠ 271 → g.1 e = h.1 e) ∧ (∀ ix, ix ≠ 170 → g.1 271 ix = h.1 271 ix) ∧ g.1 271 170 = nI 0 ∧ g.1 270 5 = h.1 270 5
theorem sp_alG {L : Nat} (hL : L ≤ 400) (es : h.1 271 170 = nI L) (R : RD h) (G : GT h 0) : tf_Sp (d + 7) 20 [.ref 270, .int 1] h (fun v g => FA h g ∧ RD g ∧ (v = .int 0 ∨ (v = .int 1 ∧ ∃ k, GT g k))) := by
  intro Q q
  refine en_X9_allLines (by decide) (go_X9_allLines_0 (by decide) ?_)
  have key : ∀ a : Int32, a = nI L → tf_Cd 298 (d + 6) 10 [.ref 270] (w1 (w1 (w1 (w1 (w1 h 270 7 a) 271 170 0) 270 13 (-1)) 270 6 0) 270 23 0) (fun r g => lx_X9_allLines 298 (tf_Cd 298 (d + 6)) Q 40 [.ref 270, .int 1, tf_z, tf_z, tf_z] [] g) := by
    rintro a rfl
    have e7 : (w1 (w1 (w1 (w1 (w1 h 270 7 (nI L)) 271 170 0) 270 13 (-1)) 270 6 0) 270 23 0).1 270 7 = nI L := by rw [w1_at (by decide), w1_at (by decide), w1_at (by decide), w1_ne (by decide), w1_eq]
    have e6 : (w1 (w1 (w1 (w1 (w1 h 270 7 (nI L)) 271 170 0) 270 13 (-1)) 270 6 0) 270 23 0).1 270 6 = nI 0 := by rw [w1_at (by decide), w1_eq]; rfl
    have eo : ∀ e, e ≠ 270 → e ≠ 271 → (w1 (w1 (w1 (w1 (w1 h 270 7 (nI L)) 271 170 0) 270 13 (-1)) 270 6 0) 270 23 0).1 e = h.1 e := fun e h1 h2 => by rw [w1_ne h1, w1_ne h1, w1_ne h1, w1_ne h2, w1_ne h1]
    have ei : ∀ i, i ≠ 7 → i ≠ 13 → i ≠ 6 → i ≠ 23 → (w1 (w1 (w1 (w1 (w1 h 270 7 (nI L)) 271 170 0) 270 13 (-1)) 270 6 0) 270 23 0).1 270 i = h.1 270 i := fun i h1 h2 h3 h4 => by rw [w1_at h4, w1_at h3, w1_at h2, w1_ne (by decide), w1_at h1]
    have ex : ∀ ix, ix ≠ 170 → (w1 (w1 (w1 (w1 (w1 h 270 7 (nI L)) 271 170 0) 270 13 (-1)) 270 6 0) 270 23 0).1 271 ix = h.1 271 ix := fun ix hx => by rw [w1_ne (by decide), w1_ne (by decide), w1_ne (by decide), w1_at hx, w1_ne (by decide)]
    have e0 : (w1 (w1 (w1 (w1 (w1 h 270 7 (nI L)) 271 170 0) 270 13 (-1)) 270 6 0) 270 23 0).1 271 170 = nI 0 := by rw [w1_ne (by decide), w1_ne (by decide), w1_ne (by decide), w1_eq]; rfl
    generalize w1 (w1 (w1 (w1 (w1 h 270 7 (nI L)) 271 170 0) 270 13 (-1)) 270 6 0) 270 23 0 = h1 at e7 e6 eo ei ex e0
    have G1 : GT h1 0 := ⟨by omega, by rw [ei 19 (by decide) (by decide) (by decide) (by decide)]; exact G.2.1, by rw [ei 18 (by decide) (by decide) (by decide) (by decide)]; exact G.2.2.1, fun p hp => by rw [eo 276 (by decide) (by decide)]; exact G.2.2.2.1 p hp, fun a ha => absurd ha (by omega)⟩
    have R1 : RD h1 := R.same (eo 275 (by decide) (by decide))
    refine sp_tok (d := d + 4) hL (Nat.zero_le _) e7 e6 _ (fun _ g2 p2 => go_X9_allLines_40 (by decide) ?_)
    obtain ⟨F2, b2, r2, hb2, T2⟩ := p2
    refine al_G (h := h1) (d := d) (fun v g3 F3 R3 p3 => q v g3 ⟨⟨fun e h1 h2 h3 => ?_, fun ix hx => ?_, ?_, ?_⟩, R3, p3⟩) 401 b2 r2 0 g2 _ (by omega) T2 (R1.same (F2.1 275 (by decide))) (G1.tb F2.ta.tb) F2.ln
    · rw [F3.1 e h1 h2]
      exact eo e h2 h3
    · rw [F3.1 271 (by decide) (by decide)]
      exact ex ix hx
    · rw [F3.1 271 (by decide) (by decide)]
      exact e0
    · rw [F3.2]
      exact ei 5 (by decide) (by decide) (by decide) (by decide)
  exact key _ es
/-- what a text that was read leaves, for the later calls -/
def LYd (h g : LH) (N : Nat) : Prop := RI g N ∧ CFm h g ∧ g.1 271 170 = nI 0 ∧ (∀ ix, 173 ≤ ix → ix < 692 → g.1 271 ix = h.1 271 ix) ∧ g.1 273 = h.1 273 ∧ g.1 272 = h.1 272
theorem IM.mv {N : Nat} (I : IM h M) (hM : M ≤ N) (e : ∀ ix, 173 ≤ ix → ix < 692 → g.1 271 ix = h.1 271 ix) (e3 : g.1 273 = h.1 273) : IM g N := by
  intro j hj hs
  rw [e3] at hs
  obtain ⟨⟨n, k, G2⟩, s, h1, h2⟩ := I j hj hs
  exact ⟨⟨n, k, (G2.mono hM).sl_sl (fun i hi => e _ (by omega) (by omega))⟩, s, h1, by rw [e _ (by omega) (by omega)]; exact h2⟩
theorem la_s {x1 : Int32} {Q : tf_Q} (q : ∀ x2 x3 : Int32, lx_X9_lay 298 (tf_Cd 298 d) Q 40 [.ref 270, .int x1, .int x2, .int x3] [] g) : ∀ (f i : Nat) (x2 : Int32), i + f = 7 → lx_X9_lay 298 (tf_Cd 298 d) Q 19 [.ref 270, .int x1, .int x2, .int (nI i)] [] g
  | 0, i, x2, hf => go_X9_lay_19 (by decide) ⟨fun _ => q _ _, fun c => absurd (show nI 7 ≤ nI i from nI_le (by omega) (by omega)) c⟩
  | f + 1, i, x2, hf => go_X9_lay_19 (by decide) ⟨fun _ => q _ _, fun _ => ⟨vi_of (by omega) (by omega), by rw [nI_1]; exact la_s q f (i + 1) _ (by omega)⟩⟩
theorem rq_lay (R : RI h M) : tf_Sp 11 24 [.ref 270] h (fun v g => (∃ x, v = .int x) ∧ LYd h g M) := by
  intro Q q
  obtain ⟨⟨n, k, GIh⟩, U, I, ⟨L, hL, es⟩, Rd⟩ := R
  refine en_X9_lay (by decide) (go_X9_lay_0 (by decide) (sp_af (d := 9) _ (fun _ g1 p1 => go_X9_lay_9 (by decide) ?_)))
  obtain ⟨F1, e5, G1⟩ := p1
  have lo1 : ∀ e, e < 275 → e ≠ 270 → g1.1 e = h.1 e := fun e h1 h2 => by rw [F1.1 e h1 h2]; exact w1_ne h2
  have e15 : g1.1 270 5 = h.1 270 5 := by rw [F1.2]; exact w1_at (by decide)
  have R1 : RD g1 := Rd.same (by rw [e5]; exact w1_ne (by decide))
  refine sp_alG (d := 3) hL (by rw [lo1 271 (by decide) (by decide)]; exact es) R1 G1 _ (fun v g2 p2 => ?_)
  obtain ⟨F2, R2, p2⟩ := p2
  have lo2 : ∀ e, e < 275 → e ≠ 270 → e ≠ 271 → g2.1 e = h.1 e := fun e h1 h2 h3 => (F2.1 e h1 h2 h3).trans (lo1 e h1 h2)
  have row2 : ∀ ix, ix ≠ 170 → g2.1 271 ix = h.1 271 ix := fun ix hx => by rw [F2.2.1 ix hx, lo1 271 (by decide) (by decide)]
  have e25 : g2.1 270 5 = h.1 270 5 := F2.2.2.2.trans e15
  have eno : ∀ x1 x2 x3 y z : Int32, y ≠ 0 → lx_X9_lay 298 (tf_Cd 298 10) Q 121 [.ref 270, .int x1, .int x2, .int x3] [] (isf g2 y z) := by
    intro x1 x2 x3 y z hy
    have r0 : ∀ ix, ix ≠ 170 → ix ≠ 171 → ix ≠ 172 → (isf g2 y z).1 271 ix = h.1 271 ix := fun ix h1 h2 h3 => by unfold isf; rw [w1_at h3, w1_at h2]; exact row2 ix h1
    have rl : ∀ e, e ≠ 271 → (isf g2 y z).1 e = g2.1 e := fun e he => by unfold isf; rw [w1_ne he, w1_ne he]
    refine go_X9_lay_121 (by decide) ⟨fun c => absurd ?_ hy, fun _ => q _ _ ⟨⟨_, rfl⟩, ⟨⟨n, k, GIh.cong (fun i hi => r0 i (by omega) (by omega) (by omega))⟩, U.same (by rw [rl 270 (by decide)]; exact e25) (by rw [rl 274 (by decide)]; exact lo2 274 (by decide) (by decide) (by decide)), I.mv (Nat.le_refl _) (fun ix h1 h2 => r0 ix (by omega) (by omega) (by omega)) (by rw [rl 273 (by decide)]; exact lo2 273 (by decide) (by decide) (by decide)), ⟨0, by omega, ?_⟩, R2.same (rl 275 (by decide))⟩, fun e he => by rw [rl e (by omega)]; exact lo2 e (by omega) (by omega) (by omega), ?_, fun ix h1 h2 => r0 ix (by omega) (by omega) (by omega), by rw [rl 273 (by decide)]; exact lo2 273 (by decide) (by decide) (by decide), by rw [rl 272 (by decide)]; exact lo2 272 (by decide) (by decide) (by decide)⟩⟩
    · have c2 : (isf g2 y z).1 271 171 = 0 := c
      unfold isf at c2
      rw [w1_at (by decide), w1_eq] at c2
      exact c2
    · show (isf g2 y z).1 271 170 = nI 0
      unfold isf
      rw [w1_at (by decide), w1_at (by decide)]
      exact F2.2.2.1
    · unfold isf
      rw [w1_at (by decide), w1_at (by decide)]
      exact F2.2.2.1
  rcases p2 with rfl | ⟨rfl, k2, G2⟩
  · exact go_X9_lay_14 (by decide) (la_s (fun x2 x3 => go_X9_lay_40 (by decide) ⟨fun _ => sx_isf (d := 9) _ _ _ (go_X9_lay_53 (by decide) (eno _ _ _ _ _ (by decide))), fun z => absurd rfl z⟩) 7 0 _ (by omega))
  · refine go_X9_lay_14 (by decide) (la_s (fun x2 x3 => go_X9_lay_40 (by decide) ⟨fun z => absurd z (by decide), fun _ => go_X9_lay_56 (by decide) ⟨fun c13 => go_X9_lay_76 (by decide) ?_, fun _ => sx_isf (d := 9) _ _ _ (go_X9_lay_73 (by decide) (eno _ _ _ _ _ (by decide)))⟩⟩) 7 0 _ (by omega))
    obtain ⟨m, m2, m7, em⟩ := G2.2.2.1
    refine sp_mi (d := 9) em m7 _ (fun v g3 p3 => ?_)
    obtain ⟨rfl, x, rfl, hx⟩ := p3
    refine go_X9_lay_80 (by decide) ⟨fun cx => go_X9_lay_96 (by decide) ?_, fun _ => sp_mi (d := 9) em m7 _ (fun v g4 p4 => ?_)⟩
    · have k118 : ∀ y z : Int32, (y = 0 ∨ y ≠ 0) → lx_X9_lay 298 (tf_Cd 298 10) Q 118 [.ref 270, .int 1, .int x2, .int x3] [.int z, .int y, .ref 270] g3 := by
        intro y z hy
        refine go_X9_lay_118 (by decide) (sx_isf (d := 9) _ _ _ ?_)
        rcases hy with rfl | hy
        · refine go_X9_lay_121 (by decide) ⟨fun _ => go_X9_lay_134 (by decide) ?_, fun c => absurd (show (isf g3 0 z).1 271 171 = 0 by unfold isf; rw [w1_at (by decide), w1_eq]) c⟩
          have rl : ∀ e, e ≠ 271 → (isf g3 0 z).1 e = g3.1 e := fun e he => by unfold isf; rw [w1_ne he, w1_ne he]
          have r0 : ∀ ix, ix ≠ 170 → ix ≠ 171 → ix ≠ 172 → (isf g3 0 z).1 271 ix = h.1 271 ix := fun ix h1 h2 h3 => by unfold isf; rw [w1_at h3, w1_at h2]; exact row2 ix h1
          have s0 : (isf g3 0 z).1 271 170 = nI 0 := by unfold isf; rw [w1_at (by decide), w1_at (by decide)]; exact F2.2.2.1
          generalize isf g3 0 z = g5 at rl r0 s0
          have G5 : GT g5 k2 := ⟨G2.1, by rw [rl 270 (by decide)]; exact G2.2.1, by rw [rl 270 (by decide)]; exact G2.2.2.1, fun p hp => by rw [rl 276 (by decide)]; exact G2.2.2.2.1 p hp, fun a ha => by
            have A := G2.2.2.2.2 a ha
            unfold AT1 td at A ⊢
            rw [rl 270 (by decide), rl 277 (by decide), rl 278 (by decide)]
            exact A⟩
          refine sp_ta (d := 7) (M := M) G5 (by rw [rl 270 (by decide)]; exact em) m2 m7 (by rw [rl 270 (by decide)]; exact c13) (fun p h1 h2 => by rw [rl 278 (by decide)]; exact hx cx p h1 h2) _ (fun _ g6 p6 => go_X9_lay_138 (by decide) (q _ g6 ⟨⟨_, rfl⟩, ⟨⟨m, k2, p6.1⟩, ⟨0, by omega, p6.2.1, fun i hi => absurd hi (by omega)⟩, I.mv (Nat.le_refl _) (fun ix h1 h2 => ?_) ?_, ⟨0, by omega, ?_⟩, R2.same ?_⟩, fun e he => ?_, ?_, fun ix h1 h2 => ?_, ?_, ?_⟩))
          · rw [p6.2.2.2 ix (by omega)]; exact r0 ix (by omega) (by omega) (by omega)
          · rw [p6.2.2.1 273 (by decide) (by decide), rl 273 (by decide)]; exact lo2 273 (by decide) (by decide) (by decide)
          · rw [p6.2.2.2 _ (by decide)]; exact s0
          · rw [p6.2.2.1 275 (by decide) (by decide), rl 275 (by decide)]
          · rw [p6.2.2.1 e (by omega) (by omega), rl e (by omega)]; exact lo2 e (by omega) (by omega) (by omega)
          · rw [p6.2.2.2 _ (by decide)]; exact s0
          · rw [p6.2.2.2 ix (by omega)]; exact r0 ix (by omega) (by omega) (by omega)
          · rw [p6.2.2.1 273 (by decide) (by decide), rl 273 (by decide)]; exact lo2 273 (by decide) (by decide) (by decide)
          · rw [p6.2.2.1 272 (by decide) (by decide), rl 272 (by decide)]; exact lo2 272 (by decide) (by decide) (by decide)
        · exact eno _ _ _ _ _ hy
      have k106 : ∀ y : Int32, (y = 0 ∨ y ≠ 0) → lx_X9_lay 298 (tf_Cd 298 10) Q 106 [.ref 270, .int 1, .int x2, .int x3] [.int y, .ref 270] g3 := fun y hy => go_X9_lay_106 (by decide) ⟨fun _ => k118 y _ hy, fun _ => go_X9_lay_114 (by decide) (k118 y _ hy)⟩
      exact ⟨fun _ => k106 0 (Or.inl rfl), fun _ => go_X9_lay_105 (by decide) (k106 4 (Or.inr (by decide)))⟩
    · obtain ⟨rfl, x9, rfl, -⟩ := p4
      exact go_X9_lay_90 (by decide) (sx_isf (d := 9) _ _ _ (go_X9_lay_93 (by decide) (eno _ _ _ _ _ (by decide))))
end RLW
