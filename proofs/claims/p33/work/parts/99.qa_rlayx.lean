/-! ===== the reference's lay: told exactly ===== -/
/-- the first place where a point is told that is not there -/
def px_mi (fa : Nat → Int32) : Nat → Nat → Int32 → Int32
  | 0, _, x => x
  | f + 1, i, x => px_mi fa f (i + 1) (if fa i ≠ -1 ∧ (x = -1 ∨ fa i < x) then fa i else x)
/-- what is at fault by the reference, all lines read -/
def px_rg (s : px_S) (e : Int32) : Int32 × Int32 :=
  if s.bad ≠ -1 then (2, s.bad)
  else if px_mi s.fa (7 - s.pts.toNatClampNeg) s.pts.toNatClampNeg (-1) ≠ -1 then (3, px_mi s.fa (7 - s.pts.toNatClampNeg) s.pts.toNatClampNeg (-1))
  else if px_sum s.su 7 0 0 = 0 then (0, -1) else (4, e)
section RXD
variable {h g : LH} {d M : Nat} {c : Nat → Int32}
theorem afx_2 {Q : tf_Q} (q : ∀ g : LH, g.1 270 18 = 2 → g.1 270 19 = 0 → g.1 270 20 = 0 → g.1 270 13 = -1 → (∀ p, p < 7 → g.1 276 p = 0 ∧ g.1 278 p = -1) → (∀ j, j < 98 → g.1 277 j = 0) → Q tf_z g) : ∀ (f i : Nat) (g : LH), i + f = 98 → g.1 270 18 = 2 → g.1 270 19 = 0 → g.1 270 20 = 0 → (∀ p, p < 7 → g.1 276 p = 0 ∧ g.1 278 p = -1) → (∀ j, j < i → g.1 277 j = 0) → lx_X9_atFirst 298 (tf_Cd 298 d) Q 45 [.ref 270, .int (nI i)] [] g
  | 0, i, g, hf, a, b, c, e, z => go_X9_atFirst_45 (by decide) ⟨fun _ => go_X9_atFirst_64 (by decide) (q (w1 (w1 g 270 13 (-1)) 270 6 0) (by rw [w1_at (by decide), w1_at (by decide)]; exact a) (by rw [w1_at (by decide), w1_at (by decide)]; exact b) (by rw [w1_at (by decide), w1_at (by decide)]; exact c) (by rw [w1_at (by decide), w1_eq]) (fun p hp => by rw [w1_ne (by decide), w1_ne (by decide), w1_ne (by decide), w1_ne (by decide)]; exact e p hp) (fun j hj => by rw [w1_ne (by decide), w1_ne (by decide)]; exact z j (by omega))), fun c => absurd (show nI 98 ≤ nI i from nI_le (by omega) (by omega)) c⟩
  | f + 1, i, g, hf, a, b, c, e, z => by
    refine go_X9_atFirst_45 (by decide) ⟨fun c => absurd (show nI 98 ≤ nI i from c) (nI_ge (by omega) (by omega)), fun _ => ⟨vi_of (by omega) (by omega), ?_⟩⟩
    rw [nI_1, nI_clamp (by omega)]
    refine afx_2 q f (i + 1) (w1 g 277 i 0) (by omega) (by rw [w1_ne (by decide)]; exact a) (by rw [w1_ne (by decide)]; exact b) (by rw [w1_ne (by decide)]; exact c) (fun p hp => by rw [w1_ne (by decide), w1_ne (by decide)]; exact e p hp) (fun j hj => ?_)
    by_cases ji : j = i
    · rw [ji, w1_eq]
    · rw [w1_at ji]
      exact z j (by omega)
theorem afx_1 {Q : tf_Q} (q : ∀ g : LH, g.1 270 18 = 2 → g.1 270 19 = 0 → g.1 270 20 = 0 → g.1 270 13 = -1 → (∀ p, p < 7 → g.1 276 p = 0 ∧ g.1 278 p = -1) → (∀ j, j < 98 → g.1 277 j = 0) → Q tf_z g) : ∀ (f i : Nat) (g : LH), i + f = 7 → g.1 270 18 = 2 → g.1 270 19 = 0 → g.1 270 20 = 0 → (∀ p, p < i → g.1 276 p = 0 ∧ g.1 278 p = -1) → lx_X9_atFirst 298 (tf_Cd 298 d) Q 17 [.ref 270, .int (nI i)] [] g
  | 0, i, g, hf, a, b, c, e => go_X9_atFirst_17 (by decide) ⟨fun _ => go_X9_atFirst_43 (by decide) (afx_2 q 98 0 g (by omega) a b c (fun p hp => e p (by omega)) (fun j hj => absurd hj (by omega))), fun c => absurd (show nI 7 ≤ nI i from nI_le (by omega) (by omega)) c⟩
  | f + 1, i, g, hf, a, b, c, e => by
    refine go_X9_atFirst_17 (by decide) ⟨fun c => absurd (show nI 7 ≤ nI i from c) (nI_ge (by omega) (by omega)), fun _ => ⟨vi_of (by omega) (by omega), vi_of (by omega) (by omega), ?_⟩⟩
    rw [nI_1, nI_clamp (by omega)]
    refine afx_1 q f (i + 1) (w1 (w1 g 276 i 0) 278 i (-1)) (by omega) (by rw [w1_ne (by decide), w1_ne (by decide)]; exact a) (by rw [w1_ne (by decide), w1_ne (by decide)]; exact b) (by rw [w1_ne (by decide), w1_ne (by decide)]; exact c) (fun p hp => ?_)
    by_cases pi : p = i
    · subst pi
      exact ⟨by rw [w1_ne (by decide), w1_eq], w1_eq⟩
    · exact ⟨by rw [w1_ne (by decide), w1_at pi]; exact (e p (by omega)).1, by rw [w1_at pi, w1_ne (by decide)]; exact (e p (by omega)).2⟩
theorem sx_af : tf_Sp (d + 1) 14 [.ref 270] h (fun _ g => (g.1 270 18 = 2 ∧ g.1 270 19 = 0 ∧ g.1 270 20 = 0 ∧ g.1 270 13 = -1) ∧ (∀ p, p < 7 → g.1 276 p = 0 ∧ g.1 278 p = -1) ∧ ∀ j, j < 98 → g.1 277 j = 0) := by
  intro Q q
  exact en_X9_atFirst (by decide) (go_X9_atFirst_0 (by decide) (afx_1 (fun g a b c e x y => q _ g ⟨⟨a, b, c, e⟩, x, y⟩) 7 0 (w1 (w1 (w1 h 270 18 2) 270 19 0) 270 20 0) (by omega) (by rw [w1_at (by decide), w1_at (by decide), w1_eq]) (by rw [w1_at (by decide), w1_eq]) w1_eq (fun p hp => absurd hp (by omega))))
theorem mix_L {Q : tf_Q} : ∀ (f i : Nat) (x : Int32), i + f = 7 → Q (.int (px_mi (h.1 278) f i x)) h → lx_X9_missing 298 (tf_Cd 298 d) Q 7 [.ref 270, .int x, .int (nI i)] [] h
  | 0, i, x, hf, q => go_X9_missing_7 (by decide) ⟨fun _ => go_X9_missing_55 (by decide) q, fun c => absurd (show nI 7 ≤ nI i from nI_le (by omega) (by omega)) c⟩
  | f + 1, i, x, hf, q => by
    have ci : (nI i).toNatClampNeg = i := nI_clamp (by omega)
    have v7 : vp_in (nI i) 7 := vi_of (by omega) (by omega)
    rw [px_mi] at q
    have k38 : (h.1 278 i ≠ -1 ∧ (x = -1 ∨ h.1 278 i < x)) → lx_X9_missing 298 (tf_Cd 298 d) Q 38 [.ref 270, .int x, .int (nI i)] [] h := fun hn => by
      rw [if_pos hn] at q
      refine go_X9_missing_38 (by decide) ⟨v7, go_X9_missing_48 (by decide) ?_⟩
      rw [nI_1, ci]
      exact mix_L f (i + 1) _ (by omega) q
    have k47 : ¬ (h.1 278 i ≠ -1 ∧ (x = -1 ∨ h.1 278 i < x)) → lx_X9_missing 298 (tf_Cd 298 d) Q 47 [.ref 270, .int x, .int (nI i)] [] h := fun hn => by
      rw [if_neg hn] at q
      refine go_X9_missing_47 (by decide) (go_X9_missing_48 (by decide) ?_)
      rw [nI_1]
      exact mix_L f (i + 1) _ (by omega) q
    refine go_X9_missing_7 (by decide) ⟨fun c => absurd (show nI 7 ≤ nI i from c) (nI_ge (by omega) (by omega)), fun _ => ⟨v7, fun c1 => ?_, fun c1 => ⟨fun c2 => ?_, fun c2 => ⟨v7, fun c3 => ?_, fun c3 => ?_⟩⟩⟩⟩
    · rw [ci] at c1
      exact k47 (fun y => y.1 c1)
    · rw [ci] at c1
      exact k38 ⟨c1, Or.inl c2⟩
    · rw [ci] at c1 c3
      exact k47 (fun y => y.2.elim c2 (fun z => Int32.not_lt.mpr c3 z))
    · rw [ci] at c1 c3
      exact k38 ⟨c1, Or.inr (Int32.not_le.mp c3)⟩
theorem sx_mi {m : Nat} (e18 : h.1 270 18 = nI m) (hm : m ≤ 7) : tf_Rt (d + 1) 21 [.ref 270] h (.int (px_mi (h.1 278) (7 - m) m (-1))) h := by
  intro Q q
  refine en_X9_missing (by decide) (go_X9_missing_0 (by decide) ?_)
  rw [e18]
  exact mix_L (7 - m) m _ (by omega) q
theorem lax_s {x1 : Int32} {Q : tf_Q} : ∀ (f i : Nat) (x2 : Int32), i + f = 7 → (∀ x3 : Int32, lx_X9_lay 298 (tf_Cd 298 d) Q 40 [.ref 270, .int x1, .int (px_sum (g.1 276) f i x2), .int x3] [] g) → lx_X9_lay 298 (tf_Cd 298 d) Q 19 [.ref 270, .int x1, .int x2, .int (nI i)] [] g
  | 0, i, x2, hf, q => go_X9_lay_19 (by decide) ⟨fun _ => q _, fun c => absurd (show nI 7 ≤ nI i from nI_le (by omega) (by omega)) c⟩
  | f + 1, i, x2, hf, q => by
    refine go_X9_lay_19 (by decide) ⟨fun c => absurd (show nI 7 ≤ nI i from c) (nI_ge (by omega) (by omega)), fun _ => ⟨vi_of (by omega) (by omega), ?_⟩⟩
    rw [nI_1, nI_clamp (by omega)]
    exact lax_s f (i + 1) _ (by omega) q
/-- the reference's state before a grid's text is read -/
def S0 (s : px_S) : Prop := s.bad = -1 ∧ (∀ p, p < 7 → s.fa p = -1) ∧ s.pts = 2 ∧ s.n = 0 ∧ s.ru = 0 ∧ (∀ p, p < 7 → s.su p = 0) ∧ ∀ j, j < 98 → s.tl j = 0
/-- what lay finds, and answers, by the reference -/
def px_rlay (c : Nat → Int32) (L : Nat) (s : px_S) : Int32 × Int32 := match (px_all c L 0 80 (px_p c L 0)).2 with
  | some p => (1, nI p)
  | none => px_rg (px_sS (px_all c L 0 80 (px_p c L 0)).1 s) (nI L)
theorem rx_lay (R : RI h M) {L : Nat} (hL : L ≤ 400) (es : h.1 271 170 = nI L) (ec : (fun i => h.1 272 i &&& 255) = c) : tf_Sp 11 24 [.ref 270] h (fun v g => ∃ s, S0 s ∧ (g.1 271 171, g.1 271 172) = px_rlay c L s ∧ ((px_rlay c L s).1 ≠ 0 → v = .int (-1)) ∧ ((px_rlay c L s).1 = 0 → v = .int (nI (px_sS (px_all c L 0 80 (px_p c L 0)).1 s).n))) := by
  intro Q q
  obtain ⟨⟨n, k, GIh⟩, U, I, -, Rd⟩ := R
  refine en_X9_lay (by decide) (go_X9_lay_0 (by decide) ((sp_af (d := 9)).cj (sx_af (d := 9)) _ (fun _ g1 p1 => go_X9_lay_9 (by decide) ?_)))
  obtain ⟨⟨F1, e5, G1⟩, ⟨e18, e19, e20, e13⟩, ez, et⟩ := p1
  have lo1 : ∀ e, e < 275 → e ≠ 270 → g1.1 e = h.1 e := fun e h1 h2 => by rw [F1.1 e h1 h2]; exact w1_ne h2
  have R1 : RD g1 := Rd.same (by rw [e5]; exact w1_ne (by decide))
  have es1 : g1.1 271 170 = nI L := by rw [lo1 271 (by decide) (by decide)]; exact es
  have ec1 : (fun i => g1.1 272 i &&& 255) = c := by rw [lo1 272 (by decide) (by decide)]; exact ec
  have Z : S0 ⟨-1, g1.1 278, 2, 0, 0, g1.1 276, g1.1 277⟩ := ⟨rfl, fun p hp => (ez p hp).2, rfl, rfl, rfl, fun p hp => (ez p hp).1, et⟩
  have Gs : RGs g1 ⟨-1, g1.1 278, 2, 0, 0, g1.1 276, g1.1 277⟩ := ⟨e13, rfl, e18, e19, e20, rfl, rfl⟩
  generalize (⟨-1, g1.1 278, 2, 0, 0, g1.1 276, g1.1 277⟩ : px_S) = s0 at Z Gs
  refine (sp_alG (d := 3) hL es1 R1 G1).cj (sx_alG (d := 3) hL es1 ec1 R1 (by rw [Z.2.2.2.1]; omega) Gs Z.1) _ (fun v g2 p2 => ?_)
  obtain ⟨⟨F2, R2, p2⟩, x2, y2⟩ := p2
  have eno : ∀ x1 x2 x3 y z : Int32, y ≠ 0 → (y, z) = px_rlay c L s0 → lx_X9_lay 298 (tf_Cd 298 10) Q 121 [.ref 270, .int x1, .int x2, .int x3] [] (isf g2 y z) := by
    intro x1 x2 x3 y z hy hr
    have e1 : (isf g2 y z).1 271 171 = y := by unfold isf; rw [w1_at (by decide), w1_eq]
    have e2 : (isf g2 y z).1 271 172 = z := by unfold isf; rw [w1_eq]
    refine go_X9_lay_121 (by decide) ⟨fun c => absurd (e1.symm.trans c) hy, fun _ => q _ _ ⟨s0, Z, by rw [e1, e2]; exact hr, fun _ => rfl, fun z0 => ?_⟩⟩
    rw [← hr] at z0
    exact absurd z0 hy
  cases za : (px_all c L 0 80 (px_p c L 0)).2 with
  | some p =>
    obtain ⟨rfl, e12⟩ := x2 p za
    have rl : px_rlay c L s0 = (1, nI p) := by unfold px_rlay; rw [za]
    refine go_X9_lay_14 (by decide) (lax_s 7 0 _ (by omega) (fun x3 => go_X9_lay_40 (by decide) ⟨fun _ => sx_isf (d := 9) _ _ _ (go_X9_lay_53 (by decide) (eno _ _ _ _ _ (by decide) ?_)), fun z => absurd rfl z⟩))
    rw [rl, e12]
  | none =>
    obtain ⟨rfl, e7, G2⟩ := y2 za
    have rl : px_rlay c L s0 = px_rg (px_sS (px_all c L 0 80 (px_p c L 0)).1 s0) (nI L) := by unfold px_rlay; rw [za]
    generalize hs : (px_sS (px_all c L 0 80 (px_p c L 0)).1 s0) = s at G2 rl
    rcases p2 with p2 | ⟨-, k2, T2⟩
    · exact absurd p2 (by intro y; cases y)
    obtain ⟨b1, b2, b3, b4, b5, b6, b7⟩ := G2
    obtain ⟨m, m2, m7, em⟩ := T2.2.2.1
    have em2 : s.pts.toNatClampNeg = m := by rw [← b3, em, nI_clamp (by omega)]
    refine go_X9_lay_14 (by decide) (lax_s 7 0 _ (by omega) (fun x3 => go_X9_lay_40 (by decide) ⟨fun z => absurd z (by decide), fun _ => go_X9_lay_56 (by decide) ⟨fun c13 => go_X9_lay_76 (by decide) ?_, fun c13 => sx_isf (d := 9) _ _ _ (go_X9_lay_73 (by decide) (eno _ _ _ _ _ (by decide) ?_))⟩⟩))
    · rw [b6]
      have nb : ¬ s.bad ≠ -1 := fun y => y (b1.symm.trans c13)
      unfold px_rg at rl
      rw [if_neg nb, em2, ← b2] at rl
      refine (sp_mi (d := 9) em m7).cj ((sx_mi (d := 9) em m7).sp (P := fun v g => g = g2 ∧ v = .int (px_mi (g2.1 278) (7 - m) m (-1))) ⟨rfl, rfl⟩) _ (fun v g3 p3 => ?_)
      obtain ⟨⟨-, x, ex, hx⟩, rfl, rfl⟩ := p3
      cases ex
      refine go_X9_lay_80 (by decide) ⟨fun cx => go_X9_lay_96 (by decide) ?_, fun cx => sx_mi (d := 9) em m7 _ (go_X9_lay_90 (by decide) (sx_isf (d := 9) _ _ _ (go_X9_lay_93 (by decide) (eno _ _ _ _ _ (by decide) ?_))))⟩
      · rw [if_neg (fun y => y cx)] at rl
        refine ⟨fun c0 => go_X9_lay_106 (by decide) ⟨fun _ => go_X9_lay_118 (by decide) (sx_isf (d := 9) _ _ _ ?_), fun z => absurd c0 z⟩, fun c0 => go_X9_lay_105 (by decide) (go_X9_lay_106 (by decide) ⟨fun z => absurd z c0, fun _ => go_X9_lay_114 (by decide) (go_X9_lay_118 (by decide) (sx_isf (d := 9) _ _ _ (eno _ _ _ _ _ (by decide) ?_)))⟩)⟩
        · rw [if_pos c0] at rl
          refine go_X9_lay_121 (by decide) ⟨fun _ => go_X9_lay_134 (by decide) ?_, fun c => absurd (show (isf g3 0 (-1)).1 271 171 = 0 by unfold isf; rw [w1_at (by decide), w1_eq]) c⟩
          have rl2 : ∀ e, e ≠ 271 → (isf g3 0 (-1)).1 e = g3.1 e := fun e he => by unfold isf; rw [w1_ne he, w1_ne he]
          have f1 : (isf g3 0 (-1)).1 271 171 = 0 := by unfold isf; rw [w1_at (by decide), w1_eq]
          have f2 : (isf g3 0 (-1)).1 271 172 = -1 := by unfold isf; rw [w1_eq]
          generalize isf g3 0 (-1) = g5 at rl2 f1 f2
          have G5 : GT g5 k2 := ⟨T2.1, by rw [rl2 270 (by decide)]; exact T2.2.1, by rw [rl2 270 (by decide)]; exact T2.2.2.1, fun p hp => by rw [rl2 276 (by decide)]; exact T2.2.2.2.1 p hp, fun a ha => by
            have A := T2.2.2.2.2 a ha
            unfold AT1 td at A ⊢
            rw [rl2 270 (by decide), rl2 277 (by decide), rl2 278 (by decide)]
            exact A⟩
          refine sp_ta (d := 7) (M := M) G5 (by rw [rl2 270 (by decide)]; exact em) m2 m7 (by rw [rl2 270 (by decide)]; exact c13) (fun p h1 h2 => by rw [rl2 278 (by decide)]; exact hx cx p h1 h2) _ (fun _ g6 p6 => go_X9_lay_138 (by decide) (q _ g6 ⟨s0, Z, ?_, fun z => absurd (by rw [rl]) z, fun _ => ?_⟩))
          · rw [p6.2.2.2 171 (by decide), p6.2.2.2 172 (by decide), f1, f2, rl]
          · show Value.int (g6.1 271 1) = _
            rw [hs, p6.1.1.2.2.1, ← T2.2.1, b4]
        · rw [if_neg c0] at rl
          rw [rl, e7]
      · rw [if_pos cx] at rl
        rw [rl]
    · unfold px_rg at rl
      rw [if_pos (fun y => c13 (b1.trans y))] at rl
      rw [rl, b1]
end RXD
