/-! ===== lay on both sides: the grid, and what stays ===== -/
section RZL
variable {h g : LH} {M d : Nat} {c : Nat → Int32}
/-- the row that was gathered, before it begins -/
def TKs (s : px_S) (r : LH) (m : Nat) : Prop := BI r m s.n ∧ r.1 271 2 = s.ru ∧ (r.1 271 3 = 0 ∧ r.1 271 4 = 0 ∧ r.1 271 5 = 0 ∧ r.1 271 6 = -1 ∧ r.1 271 7 = 0) ∧ (∀ p, p < 7 → r.1 271 (44 + p) = s.su p) ∧ ∀ a w, a < 14 → w < 7 → rm r a w = s.tl (7 * a + w)
/-- nothing was laid -/
def LyN (h g : LH) : Prop := (∀ i, i < 170 → g.1 271 i = h.1 271 i) ∧ g.1 270 5 = h.1 270 5 ∧ g.1 274 = h.1 274
/-- a grid was laid -/
def LYs (s : px_S) (g : LH) : Prop := g.1 270 5 = nI 0 ∧ ∃ (m : Nat) (r : LH), 2 ≤ m ∧ m ≤ 7 ∧ s.pts = nI m ∧ TKs s r m ∧ ∀ i, g.1 271 i = (bgn r m s.n 0).1 271 i
theorem sS_n14 : ∀ (ls : List px_L) (s : px_S), s.n ≤ 14 → (px_sS ls s).n ≤ 14
  | [], _, h => h
  | L :: r, s, h => by
    rw [px_sS]
    exact sS_n14 r _ (px_sl_n h)
theorem ry_lay (R : RI h M) {L : Nat} (hL : L ≤ 400) (es : h.1 271 170 = nI L) (ec : (fun i => h.1 272 i &&& 255) = c) : tf_Sp 11 24 [.ref 270] h (fun _ g => ∃ s, S0 s ∧ ((px_rlay c L s).1 ≠ 0 → LyN h g) ∧ ((px_rlay c L s).1 = 0 → LYs (px_sS (px_all c L 0 80 (px_p c L 0)).1 s) g)) := by
  intro Q q
  obtain ⟨⟨n, k, GIh⟩, U, I, -, Rd⟩ := R
  refine en_X9_lay (by decide) (go_X9_lay_0 (by decide) ((sp_af (d := 9)).cj (sx_af (d := 9)) _ (fun _ g1 p1 => go_X9_lay_9 (by decide) ?_)))
  obtain ⟨⟨F1, e5, G1⟩, ⟨e18, e19, e20, e13⟩, ez, et⟩ := p1
  have lo1 : ∀ e, e < 275 → e ≠ 270 → g1.1 e = h.1 e := fun e h1 h2 => by rw [F1.1 e h1 h2]; exact w1_ne h2
  have R1 : RD g1 := Rd.same (by rw [e5]; exact w1_ne (by decide))
  have es1 : g1.1 271 170 = nI L := by rw [lo1 271 (by decide) (by decide)]; exact es
  have ec1 : (fun i => g1.1 272 i &&& 255) = c := by rw [lo1 272 (by decide) (by decide)]; exact ec
  have Z : S0 ⟨-1, g1.1 278, 2, 0, 0, g1.1 276, g1.1 277⟩ := ⟨rfl, fun p hp => (ez p hp).2, rfl, rfl, rfl, fun p hp => (ez p hp).1, et⟩
  have Gs : RGs g1 ⟨-1, g1.1 278, 2, 0, 0, g1.1 276, g1.1 277⟩ := ⟨e13, rfl, e18, e19, e20, rfl, rfl⟩
  generalize (⟨-1, g1.1 278, 2, 0, 0, g1.1 276, g1.1 277⟩ : px_S) = s0 at Z Gs
  refine (sp_alG (d := 3) hL es1 R1 G1).cj (sx_alG (d := 3) hL es1 ec1 R1 (by rw [Z.2.2.2.1]; omega) Gs Z.1) _ (fun v g2 p2 => ?_)
  obtain ⟨⟨F2, R2, p2⟩, x2, y2⟩ := p2
  have f2 : ∀ i, i < 170 → g2.1 271 i = h.1 271 i := fun i hi => by rw [F2.2.1 i (by omega), lo1 271 (by decide) (by decide)]
  have f5 : ∀ y z : Int32, (isf g2 y z).1 270 5 = h.1 270 5 := fun y z => by
    unfold isf
    rw [w1_ne (by decide), w1_ne (by decide), F2.2.2.2, F1.2]
    exact w1_at (h := h) (by decide)
  have f4 : ∀ y z : Int32, (isf g2 y z).1 274 = h.1 274 := fun y z => by
    unfold isf
    rw [w1_ne (by decide), w1_ne (by decide), F2.1 274 (by decide) (by decide) (by decide), lo1 274 (by decide) (by decide)]
  have eno : ∀ x1 x2 x3 y z : Int32, y ≠ 0 → (y, z) = px_rlay c L s0 → lx_X9_lay 298 (tf_Cd 298 10) Q 121 [.ref 270, .int x1, .int x2, .int x3] [] (isf g2 y z) := by
    intro x1 x2 x3 y z hy hr
    have e1 : (isf g2 y z).1 271 171 = y := by unfold isf; rw [w1_at (by decide), w1_eq]
    have e2 : (isf g2 y z).1 271 172 = z := by unfold isf; rw [w1_eq]
    refine go_X9_lay_121 (by decide) ⟨fun c => absurd (e1.symm.trans c) hy, fun _ => q _ _ ⟨s0, Z, fun _ => ⟨fun i hi => by rw [show (isf g2 y z).1 271 i = g2.1 271 i by unfold isf; rw [w1_at (by omega), w1_at (by omega)], f2 i hi], f5 y z, f4 y z⟩, fun z0 => ?_⟩⟩
    rw [← hr] at z0
    exact absurd z0 hy
  cases za : (px_all c L 0 80 (px_p c L 0)).2 with
  | some p =>
    obtain ⟨rfl, e12⟩ := x2 p za
    have rl : px_rlay c L s0 = (1, nI p) := by unfold px_rlay; rw [za]
    refine go_X9_lay_14 (by decide) (lax_s 7 0 _ (by omega) (fun x3 => go_X9_lay_40 (by decide) ⟨fun _ => sx_isf (d := 9) _ _ _ (go_X9_lay_53 (by decide) (eno _ _ _ _ _ (by decide) ?_)), fun z => absurd rfl z⟩))
    rw [rl, e12]
  | none =>
    obtain ⟨rfl, e7, G2⟩ := y2 za
    have rl : px_rlay c L s0 = px_rg (px_sS (px_all c L 0 80 (px_p c L 0)).1 s0) (nI L) := by unfold px_rlay; rw [za]
    generalize hs : (px_sS (px_all c L 0 80 (px_p c L 0)).1 s0) = s at G2 rl
    rcases p2 with p2 | ⟨-, k2, T2⟩
    · exact absurd p2 (by intro y; cases y)
    have hn15 : s.n ≤ 14 := by rw [← hs]; exact sS_n14 _ _ (by rw [Z.2.2.2.1]; omega)
    obtain ⟨b1, b2, b3, b4, b5, b6, b7⟩ := G2
    obtain ⟨m, m2, m7, em⟩ := T2.2.2.1
    have em2 : s.pts.toNatClampNeg = m := by rw [← b3, em, nI_clamp (by omega)]
    refine go_X9_lay_14 (by decide) (lax_s 7 0 _ (by omega) (fun x3 => go_X9_lay_40 (by decide) ⟨fun z => absurd z (by decide), fun _ => go_X9_lay_56 (by decide) ⟨fun c13 => go_X9_lay_76 (by decide) ?_, fun c13 => sx_isf (d := 9) _ _ _ (go_X9_lay_73 (by decide) (eno _ _ _ _ _ (by decide) ?_))⟩⟩))
    · rw [b6]
      have nb : ¬ s.bad ≠ -1 := fun y => y (b1.symm.trans c13)
      unfold px_rg at rl
      rw [if_neg nb, em2, ← b2] at rl
      refine (sp_mi (d := 9) em m7).cj ((sx_mi (d := 9) em m7).sp (P := fun v g => g = g2 ∧ v = .int (px_mi (g2.1 278) (7 - m) m (-1))) ⟨rfl, rfl⟩) _ (fun v g3 p3 => ?_)
      obtain ⟨⟨-, x, ex, hx⟩, rfl, rfl⟩ := p3
      cases ex
      refine go_X9_lay_80 (by decide) ⟨fun cx => go_X9_lay_96 (by decide) ?_, fun cx => sx_mi (d := 9) em m7 _ (go_X9_lay_90 (by decide) (sx_isf (d := 9) _ _ _ (go_X9_lay_93 (by decide) (eno _ _ _ _ _ (by decide) ?_))))⟩
      · rw [if_neg (fun y => y cx)] at rl
        refine ⟨fun c0 => go_X9_lay_106 (by decide) ⟨fun _ => go_X9_lay_118 (by decide) (sx_isf (d := 9) _ _ _ ?_), fun z => absurd c0 z⟩, fun c0 => go_X9_lay_105 (by decide) (go_X9_lay_106 (by decide) ⟨fun z => absurd z c0, fun _ => go_X9_lay_114 (by decide) (go_X9_lay_118 (by decide) (sx_isf (d := 9) _ _ _ (eno _ _ _ _ _ (by decide) ?_)))⟩)⟩
        · rw [if_pos c0] at rl
          refine go_X9_lay_121 (by decide) ⟨fun _ => go_X9_lay_134 (by decide) ?_, fun c => absurd (show (isf g3 0 (-1)).1 271 171 = 0 by unfold isf; rw [w1_at (by decide), w1_eq]) c⟩
          have rl2 : ∀ e, e ≠ 271 → (isf g3 0 (-1)).1 e = g3.1 e := fun e he => by unfold isf; rw [w1_ne he, w1_ne he]
          have f1 : (isf g3 0 (-1)).1 271 171 = 0 := by unfold isf; rw [w1_at (by decide), w1_eq]
          have f2 : (isf g3 0 (-1)).1 271 172 = -1 := by unfold isf; rw [w1_eq]
          generalize isf g3 0 (-1) = g5 at rl2 f1 f2
          have G5 : GT g5 k2 := ⟨T2.1, by rw [rl2 270 (by decide)]; exact T2.2.1, by rw [rl2 270 (by decide)]; exact T2.2.2.1, fun p hp => by rw [rl2 276 (by decide)]; exact T2.2.2.2.1 p hp, fun a ha => by
            have A := T2.2.2.2.2 a ha
            unfold AT1 td at A ⊢
            rw [rl2 270 (by decide), rl2 277 (by decide), rl2 278 (by decide)]
            exact A⟩
          refine (sp_ta (d := 7) (M := M) G5 (by rw [rl2 270 (by decide)]; exact em) m2 m7 (by rw [rl2 270 (by decide)]; exact c13) (fun p h1 h2 => by rw [rl2 278 (by decide)]; exact hx cx p h1 h2)).cj (rx_ta (d := 7) G5 (by rw [rl2 270 (by decide)]; exact em) m2 m7 (by rw [rl2 270 (by decide)]; exact c13) (fun p h1 h2 => by rw [rl2 278 (by decide)]; exact hx cx p h1 h2)) _ (fun _ g6 p6 => go_X9_lay_138 (by decide) (q _ g6 ⟨s0, Z, fun z => absurd (by rw [rl]) z, fun _ => ?_⟩))
          obtain ⟨⟨G6, e65, -, -⟩, r, ⟨B, t2, t3, t4, t5⟩, t6⟩ := p6
          rw [hs]
          have ek : s.n = k2 := (nI_eq (by have := hn15; omega) (by have := T2.1; omega)).mp (b4.symm.trans T2.2.1)
          refine ⟨e65, m, r, m2, m7, b3.symm.trans em, ?_, ?_⟩
          · unfold TKs
            rw [ek]
            refine ⟨B, by rw [t2, rl2 270 (by decide), b5], t3, fun p hp => by rw [t4 p hp, rl2 276 (by decide), b6], fun a w ha hw => ?_⟩
            rw [t5 a w ha hw]
            unfold td
            rw [rl2 277 (by decide), b7]
          · rw [ek]
            exact t6
        · rw [if_neg c0] at rl
          rw [rl, e7]
      · rw [if_pos cx] at rl
        rw [rl]
    · unfold px_rg at rl
      rw [if_pos (fun y => c13 (b1.trans y))] at rl
      rw [rl, b1]
theorem cz_lay {l : Nat} {s : px_S} (X : CI h M) (hl : l ≤ 400) (el : h.1 251 1 = nI l) (Z : S0 s) : tf_Sp 11 182 [.ref 240] h (fun v g => ((px_lay (h.1 252) l).1 ≠ 0 → v = .int (-1) ∧ ∀ e, e < 241 → g.1 e = h.1 e) ∧ ((px_lay (h.1 252) l).1 = 0 → v = .int (nI (px_sS (px_all (h.1 252) l 0 80 (px_p (h.1 252) l 0)).1 s).n) ∧ ∃ (g3 : LH) (m : Nat), 2 ≤ m ∧ m ≤ 7 ∧ (px_sS (px_all (h.1 252) l 0 80 (px_p (h.1 252) l 0)).1 s).pts = nI m ∧ NO g3 0 m (px_sS (px_all (h.1 252) l 0 80 (px_p (h.1 252) l 0)).1 s).n ∧ FR g3 (px_sS (px_all (h.1 252) l 0 80 (px_p (h.1 252) l 0)).1 s) ∧ (∀ p, p < m → g3.1 1 p = (px_sS (px_all (h.1 252) l 0 80 (px_p (h.1 252) l 0)).1 s).su p) ∧ (px_sS (px_all (h.1 252) l 0 80 (px_p (h.1 252) l 0)).1 s).bad = -1 ∧ (∀ e, e < 15 → g.1 e = (nt_tcl (nt_beg g3 0 m (px_sS (px_all (h.1 252) l 0 80 (px_p (h.1 252) l 0)).1 s).n 0) 11).1 e) ∧ g.1 240 9 = 0 ∧ (∀ e, 15 ≤ e → e < 240 → g.1 e = h.1 e) ∧ g.1 240 8 = h.1 240 8)) := by
  intro Q q
  obtain ⟨XAh, P⟩ := X
  have hp0 := (px_p_le (c := h.1 252) (l := l) (a := 0) (Nat.zero_le _)).2
  have K := px_all_ok (c := h.1 252) (l := l) (o := 0) 80 _ hp0
  have c80 := px_all_80 (c := h.1 252) (l := l) (o := 0) 80 (px_p (h.1 252) l 0)
  refine en_X8_lay (by decide) (go_X8_lay_0 (by decide) (sx_rd (d := 3) hl el 0 _ (fun _ g1 p1 => ?_)))
  obtain ⟨-, F1, S, W⟩ := p1
  have V := S.vb
  have Sg := S.sg
  have el1 : g1.1 251 1 = nI l := by rw [F1.1 251 (by decide)]; exact el
  have PL : px_lay (h.1 252) l = (match (px_all (h.1 252) l 0 80 (px_p (h.1 252) l 0)).2 with | some w => (1, nI w) | none => px_cg (px_all (h.1 252) l 0 80 (px_p (h.1 252) l 0)).1 (nI l) (0, -1)) := rfl
  rw [PL] at q
  generalize px_all (h.1 252) l 0 80 (px_p (h.1 252) l 0) = r at c80 V Sg W S q K
  obtain ⟨ls, w⟩ := r
  have no : ∀ (g : LH), FS h g → g.1 259 1 ≠ 0 → (match w with | some w => ((1 : Int32), nI w) | none => px_cg ls (nI l) (0, -1)).1 ≠ 0 → lx_X8_lay 298 (tf_Cd 298 10) Q 36 [.ref 240] [] g := by
    intro g F z y
    obtain ⟨L, L2, L3⟩ := tkf_lo (h := g)
    have s1 := sx_tkf (d := 9) (h := g)
    generalize tkf g = gt at L L2 L3 s1
    refine go_X8_lay_36 (by decide) (s1 _ (go_X8_lay_40 (by decide) ⟨fun c => absurd c (by rw [L 259 (by decide)]; exact z), fun _ => q _ gt ⟨fun _ => ⟨rfl, fun e he => by rw [L e (by omega), F.1 e (by omega)]⟩, fun c => absurd c y⟩⟩))
  refine go_X8_lay_12 (by decide) ⟨fun z => ?_, fun z => ?_⟩
  · cases w with
    | some w => exact absurd (W.1.symm.trans z) (by decide)
    | none =>
      rw [el1]
      refine sx_cg (d := 6) Sg S.1 c80 _ _ (fun _ g2 p2 => ?_)
      obtain ⟨G2, z2, u2⟩ := p2
      have z3 : fp g2 = px_cg ls (nI l) (0, -1) := by rw [z2]; show px_cg ls (nI l) (g1.1 259 1, g1.1 259 2) = _; rw [W.1, W.2]
      have F2 : FS h g2 := F1.tr G2.fs
      by_cases y : g2.1 259 1 = 0
      · have y0 : (px_cg ls (nI l) (0, -1)).1 = 0 := by rw [← z3]; exact y
        -- nothing is bad
        have hb : (px_sS ls s).bad = -1 := by
          by_cases b : (px_sS ls s).bad = -1
          · exact b
          · exfalso
            obtain ⟨zb, zf, zp, zn, zr, zs, zt⟩ := Z
            have e1 := gs_bad hl ls 0 s K (Or.inl ⟨by omega, zn⟩)
            have f0 : fb s.bad = (0, -1) := by rw [zb]; rfl
            rw [f0] at e1
            unfold px_cg at y0
            simp only at y0
            rw [e1] at y0
            have n0 := fb_bad b
            rw [if_neg n0, if_neg n0] at y0
            exact n0 y0
        have A := (G2.lsg Sg).agr (px_gs_A ls 0 (0, -1) (by omega) (px_cg_0 (e := nI l) y0))
        have V2 := V.same (G2.1 260 (by decide) (by decide))
        have S2 := G2.lsg Sg
        have e2 := (G2.2.2 0 (by decide) (by decide)).trans S.1
        have u3 := u2 (by rw [z3]; exact y0)
        obtain ⟨L, L2, L3⟩ := tkf_lo (h := g2)
        have s1 := sx_tkf (d := 9) (h := g2)
        generalize tkf g2 = gt at L L2 L3 s1
        have A3 : AGr gt ls.length := A.same (L 260 (by decide)) (L 262 (by decide))
        have V3 : VB gt ls.length := V2.same (L 260 (by decide))
        have e3 : gt.1 259 0 = nI ls.length := by rw [L 259 (by decide)]; exact e2
        have S3 : LSg gt 0 ls := fun m L2 hm => ⟨(S2 m L2 hm).1.same (fun c h1 h2 => L c (by omega)), (S2 m L2 hm).2⟩
        have XT : XA gt M := XAh.lo (fun e he => by rw [L e (by omega), F2.1 e (by omega)])
        obtain ⟨n, k, m0, hm0, H⟩ := XT.net
        refine go_X8_lay_36 (by decide) (s1 _ (go_X8_lay_40 (by decide) ⟨fun _ => go_X8_lay_52 (by decide) (sx_fi (d := 7) hl S3 e3 c80 V3 A3 K H.1 Z hb _ (fun _ g3 p => go_X8_lay_63 (by decide) ?_)), fun c => absurd (by rw [L 259 (by decide)]; exact y) c⟩))
        obtain ⟨m, m2, m7, em, N3, F3, u4⟩ := p
        have s4 := sx_beg (d := 8) N3.1 0
        have H3 : NT g3 0 m (px_sS ls s).n m0 := ⟨N3.1, by rw [show (0 + 11 : Nat) = 11 from rfl, N3.2.1]; exact H.2.1, by rw [show (0 + 11 : Nat) = 11 from rfl, N3.2.1]; exact H.2.2⟩
        obtain ⟨H4, L4, B4⟩ := beg_ok H3 0
        refine s4 _ (go_X8_lay_71 (by decide) (sx_tcl (d := 9) (t := 11) (by decide) _ (go_X8_lay_81 (by decide) ?_)))
        have a1 : (w1 (nt_tcl (nt_beg g3 0 m (px_sS ls s).n 0) 11) 240 9 0).1 0 1 = nI (px_sS ls s).n := by
          rw [w1_ne (by decide)]
          unfold nt_tcl
          rw [w1_ne (by decide), w1_ne (by decide), w1_ne (by decide), w1_ne (by decide)]
          exact H4.1.2.2.2.1
        refine q _ (w1 (nt_tcl (nt_beg g3 0 m (px_sS ls s).n 0) 11) 240 9 0) ⟨fun c => absurd y0 c, fun _ => ⟨congrArg Value.int a1, g3, m, m2, m7, em, N3.1, F3, fun p hp => ?_, hb, fun e he => w1_ne (by omega), w1_eq, fun e h1 h2 => ?_, ?_⟩⟩
        · obtain ⟨zb, zf, zp, zn, zr, zs, zt⟩ := Z
          rw [u4 p hp, L 264 (by decide), u3 p (by omega)]
          exact su_eq hl ls s _ K hb (fun i hi => (zs i hi).symm) p (by omega)
        · rw [w1_ne (by omega)]
          unfold nt_tcl
          rw [w1_ne (by omega), w1_ne (by omega), w1_ne (by omega), w1_ne (by omega), L4 e (by omega), N3.2.2.1 e h1, L e (by omega), F2.1 e (by omega)]
        · rw [w1_at (by decide)]
          unfold nt_tcl
          rw [w1_ne (by decide), w1_ne (by decide), w1_ne (by decide), w1_ne (by decide), L4 240 (by omega), N3.2.2.1 240 (by omega), L 240 (by omega), F2.1 240 (by omega)]
      · refine no g2 F2 y ?_
        show (px_cg ls (nI l) (0, -1)).1 ≠ 0
        rw [← z3]
        exact y
  · cases w with
    | none => exact absurd W.1 z
    | some w => exact no g1 F1 z (show (1 : Int32) ≠ 0 by decide)
end RZL
