/-! ===== the reference's line of a grid's text: told exactly ===== -/
/-- what the reference has gathered of a grid's text -/
abbrev px_S : Type := Int32 × (Nat → Int32) × Int32 × Nat × Int32 × (Nat → Int32) × (Nat → Int32)
abbrev px_S.bad (s : px_S) : Int32 := s.1
abbrev px_S.fa (s : px_S) : Nat → Int32 := s.2.1
abbrev px_S.pts (s : px_S) : Int32 := s.2.2.1
abbrev px_S.n (s : px_S) : Nat := s.2.2.2.1
abbrev px_S.ru (s : px_S) : Int32 := s.2.2.2.2.1
abbrev px_S.su (s : px_S) : Nat → Int32 := s.2.2.2.2.2.1
abbrev px_S.tl (s : px_S) : Nat → Int32 := s.2.2.2.2.2.2
def RGs (g : LH) (s : px_S) : Prop := RG g s.bad s.fa s.pts s.n s.ru s.su s.tl
/-- a line of a grid's text, by its verb, its place and its numbers -/
def px_sl (v b : Nat) (l : List (Int32 × Nat)) (s : px_S) : px_S :=
  if v = 0 then (px_bt (l.getD 0 (0, 0)).1 2 7 (l.getD 0 (0, 0)).2 s.bad, s.fa, px_rd (l.getD 0 (0, 0)).1 2 7, s.n, s.ru, s.su, s.tl)
  else if v = 1 ∨ v = 2 then (px_ab s.n b (l.getD 0 (0, 0)).1 (l.getD 1 (0, 0)).1 (l.getD 0 (0, 0)).2 (l.getD 1 (0, 0)).2 s.bad, px_fa (px_fa s.fa (l.getD 0 (0, 0)).1 (l.getD 0 (0, 0)).2) (l.getD 1 (0, 0)).1 (l.getD 1 (0, 0)).2, s.pts, if s.n < 14 then s.n + 1 else s.n, s.ru, s.su, if s.n < 14 then px_tl s.tl s.n (px_rd (l.getD 0 (0, 0)).1 0 6) (px_rd (l.getD 1 (0, 0)).1 0 6) (l.getD 2 (0, 0)).1 ((if v = 1 then 1 else -1) * (l.getD 3 (0, 0)).1) else s.tl)
  else if v = 3 ∨ v = 4 then (px_bt (l.getD 0 (0, 0)).1 0 6 (l.getD 0 (0, 0)).2 s.bad, px_fa s.fa (l.getD 0 (0, 0)).1 (l.getD 0 (0, 0)).2, s.pts, s.n, s.ru, px_pw s.su (px_rd (l.getD 0 (0, 0)).1 0 6).toNatClampNeg (if v = 3 then (l.getD 1 (0, 0)).1 else -(l.getD 1 (0, 0)).1), s.tl)
  else if v = 5 then (px_bt (l.getD 0 (0, 0)).1 0 (nI s.n - 1) (l.getD 0 (0, 0)).2 s.bad, s.fa, s.pts, s.n, s.ru, s.su, if rf_in (px_rd (l.getD 0 (0, 0)).1 0 (nI s.n - 1)) 0 (nI s.n - 1) = true then px_pw s.tl (7 * (px_rd (l.getD 0 (0, 0)).1 0 (nI s.n - 1)).toNatClampNeg + 6) 1 else s.tl)
  else (s.bad, s.fa, s.pts, s.n, nI (v - 6), s.su, s.tl)
section RX8
variable {h g : LH} {d : Nat} {c : Nat → Int32}
theorem px_nsS {L k p : Nat} (t : px_t c L p = 2) : px_ns c L (k + 1) p = ((px_num c L p, p) :: (px_ns c L k (px_nx c L p)).1, (px_ns c L k (px_nx c L p)).2) := by
  rw [px_ns, if_pos t]
theorem px_nsF {L k p : Nat} (t : px_t c L p ≠ 2) : px_ns c L (k + 1) p = ([], p, false) := by
  rw [px_ns, if_neg t]
theorem px_nsT {L k p : Nat} (o : (px_ns c L (k + 1) p).2.2 = true) : px_t c L p = 2 ∧ (px_ns c L k (px_nx c L p)).2.2 = true := by
  by_cases t : px_t c L p = 2
  · rw [px_nsS t] at o
    exact ⟨t, o⟩
  · rw [px_nsF t] at o
    cases o
theorem px_ns4 {L p : Nat} (o : (px_ns c L 4 p).2.2 = true) : (px_ns c L 4 p).1 = [(px_num c L p, p), (px_num c L (px_nx c L p), px_nx c L p), (px_num c L (px_nx c L (px_nx c L p)), px_nx c L (px_nx c L p)), (px_num c L (px_nx c L (px_nx c L (px_nx c L p))), px_nx c L (px_nx c L (px_nx c L p)))] := by
  obtain ⟨t1, o1⟩ := px_nsT o
  obtain ⟨t2, o2⟩ := px_nsT o1
  obtain ⟨t3, o3⟩ := px_nsT o2
  obtain ⟨t4, o4⟩ := px_nsT o3
  rw [px_nsS t1, px_nsS t2, px_nsS t3, px_nsS t4, px_ns]
/-- a line was read: it fails, or it is told -/
def LX (h g : LH) (c : Nat → Int32) (L : Nat) (ns : List (Int32 × Nat) × Nat × Bool) (v : Value) (s : px_S) : Prop := FLn h g ∧ RD g ∧ (ns.2.2 = false → v = .int 0 ∧ g.1 270 12 = nI ns.2.1) ∧ (ns.2.2 = true → v = .int 1 ∧ PB g c L ns.2.1 ∧ RGs g s)
theorem LX.no {L p : Nat} {l : List (Int32 × Nat)} {s : px_S} (F : FLn h g) (R : RD g) (e : g.1 270 12 = nI p) : LX h g c L (l, p, false) (.int 0) s := ⟨F, R, fun _ => ⟨rfl, e⟩, fun y => by cases y⟩
theorem LX.yes {L p : Nat} {l : List (Int32 × Nat)} {s : px_S} (F : FLn h g) (R : RD g) (P : PB g c L p) (G : RGs g s) : LX h g c L (l, p, true) (.int 1) s := ⟨F, R, fun y => (by cases y), fun _ => ⟨rfl, P, G⟩⟩
theorem grl_arc {L b v : Nat} {s : px_S} (hL : L ≤ 400) (ec : (fun i => h.1 272 i &&& 255) = c) (P : PB h c L b) (t1 : px_t c L b = 1) (hn : s.n ≤ 14) (G : RGs h s) (R : RD h) (hv : v = 1 ∨ v = 2) : tf_Sp (d + 6) 18 [.ref 270, .long (px_W.getD v 0)] h (fun x g => LX h g c L (px_ns c L 4 (px_nx c L b)) x (px_sl v b (px_ns c L 4 (px_nx c L b)).1 s)) := by
  intro Q q
  have k30 : ∀ sg : Int32, sg = (if v = 1 then 1 else -1) → lx_X9_gridLine 298 (tf_Cd 298 (d + 5)) Q 30 [.ref 270, .long (px_W.getD v 0), tf_z, tf_z] [.int sg, .ref 270] h := by
    intro sg hs
    refine go_X9_gridLine_30 (by decide) (sx_arcL (d := d) hL ec P t1 hn G R _ (fun x g p => ?_))
    obtain ⟨F, R2, p0, p1⟩ := p
    by_cases o : (px_ns c L 4 (px_nx c L b)).2.2 = true
    · obtain ⟨rfl, P2, G2⟩ := p1 o
      refine go_X9_gridLine_33 (by decide) ⟨rfl, q _ g ⟨F, R2, fun y => absurd (o.symm.trans y) (by decide), fun _ => ⟨rfl, P2, ?_⟩⟩⟩
      have e := px_ns4 o
      unfold RGs px_sl
      rw [if_neg (show ¬ v = 0 by omega), if_pos hv, e]
      subst hs
      exact G2
    · have o : (px_ns c L 4 (px_nx c L b)).2.2 = false := Bool.eq_false_iff.mpr o
      obtain ⟨rfl, e⟩ := p0 o
      exact go_X9_gridLine_33 (by decide) ⟨rfl, q _ g ⟨F, R2, fun _ => ⟨rfl, e⟩, fun y => absurd (o.symm.trans y) (by decide)⟩⟩
  rcases hv with rfl | rfl
  · exact en_X9_gridLine (by decide) (go_X9_gridLine_0 (by decide) ⟨fun _ => go_X9_gridLine_16 (by decide) ⟨fun _ => k30 1 rfl, fun z => absurd (show lg_cmp (px_W.getD 1 0) 6386275 = 0 by decide) z⟩, fun z => absurd (show lg_cmp (px_W.getD 1 0) 6386275 = 0 by decide) z⟩)
  · exact en_X9_gridLine (by decide) (go_X9_gridLine_0 (by decide) ⟨fun z => absurd z (by decide), fun _ => ⟨fun _ => go_X9_gridLine_16 (by decide) ⟨fun z => absurd z (by decide), fun _ => go_X9_gridLine_29 (by decide) (k30 (-1) rfl)⟩, fun z => absurd (show lg_cmp (px_W.getD 2 0) 1734437230 = 0 by decide) z⟩⟩)
theorem grl_34 {v : Nat} {Q : tf_Q} (hv : v < 15) (n1 : v ≠ 1) (n2 : v ≠ 2) (q : lx_X9_gridLine 298 (tf_Cd 298 (d + 5)) Q 34 [.ref 270, .long (px_W.getD v 0), tf_z, tf_z] [] h) : tf_Cd 298 (d + 6) 18 [.ref 270, .long (px_W.getD v 0)] h Q := by
  have a : ∀ v, v < 15 → v ≠ 1 → v ≠ 2 → ¬ lg_cmp (px_W.getD v 0) 6386275 = 0 ∧ ¬ lg_cmp (px_W.getD v 0) 1734437230 = 0 := by decide
  obtain ⟨a1, a2⟩ := a v hv n1 n2
  exact en_X9_gridLine (by decide) (go_X9_gridLine_0 (by decide) ⟨fun z => absurd z a1, fun _ => ⟨fun z => absurd z a2, fun _ => q⟩⟩)
theorem RG.k {bad pts ru : Int32} {n : Nat} {fa su tl : Nat → Int32} (G : RG h bad fa pts n ru su tl) (e1 : g.1 270 13 = h.1 270 13) (e2 : g.1 278 = h.1 278) (e3 : g.1 270 18 = h.1 270 18) (e4 : g.1 270 19 = h.1 270 19) (e5 : g.1 270 20 = h.1 270 20) (e6 : g.1 276 = h.1 276) (e7 : g.1 277 = h.1 277) : RG g bad fa pts n ru su tl := by
  obtain ⟨a, b, c, d, e, f, k⟩ := G
  exact ⟨e1.trans a, e2.trans b, e3.trans c, e4.trans d, e5.trans e, e6.trans f, e7.trans k⟩
theorem FTk.rg {bad pts ru : Int32} {n : Nat} {fa su tl : Nat → Int32} (F : FTk h g) (G : RG h bad fa pts n ru su tl) : RG g bad fa pts n ru su tl := G.k (F.2 13 (by decide) (by decide) (by decide) (by decide)) (F.1 278 (by decide)) (F.2 18 (by decide) (by decide) (by decide) (by decide)) (F.2 19 (by decide) (by decide) (by decide) (by decide)) (F.2 20 (by decide) (by decide) (by decide) (by decide)) (F.1 276 (by decide)) (F.1 277 (by decide))
theorem grl_rule {L b v : Nat} {s : px_S} (hL : L ≤ 400) (ec : (fun i => h.1 272 i &&& 255) = c) (P : PB h c L b) (t1 : px_t c L b = 1) (G : RGs h s) (R : RD h) (hv : v = 6 ∨ v = 7 ∨ v = 8) : tf_Sp (d + 6) 18 [.ref 270, .long (px_W.getD v 0)] h (fun x g => LX h g c L (px_ns c L 0 (px_nx c L b)) x (px_sl v b (px_ns c L 0 (px_nx c L b)).1 s)) := by
  intro Q q
  have r : px_ru (px_W.getD v 0) = nI (v - 6) := by rcases hv with rfl | rfl | rfl <;> decide
  have r1 : px_ru (px_W.getD v 0) ≠ -1 := by rcases hv with rfl | rfl | rfl <;> decide
  refine grl_34 (by omega) (by omega) (by omega) (go_X9_gridLine_34 (by decide) (sx_ruleBy (d := d + 4) _ _ (go_X9_gridLine_38 (by decide) ⟨fun z => absurd z r1, fun _ => sx_ruleBy (d := d + 4) _ _ (go_X9_gridLine_47 (by decide) ?_)⟩)))
  have P1 : PB (w1 h 270 20 (px_ru (px_W.getD v 0))) c L b := P.same (fun i hi => w1_at (by omega)) rfl
  have c1 : (fun i => (w1 h 270 20 (px_ru (px_W.getD v 0))).1 272 i &&& 255) = c := by rw [w1_ne (by decide)]; exact ec
  refine P1.tok (d := d + 3) hL c1 (by rw [t1]; decide) _ (fun _ g2 p2 => go_X9_gridLine_54 (by decide) (q _ g2 ?_))
  obtain ⟨F2, P2⟩ := p2
  rw [px_ns]
  refine LX.yes ((FLn.w (Or.inr ⟨rfl, by decide⟩)).tr F2.ln) ((R.same (w1_ne (by decide))).same (F2.1 275 (by decide))) P2 ?_
  unfold RGs px_sl
  rw [if_neg (show ¬ v = 0 by omega), if_neg (show ¬ (v = 1 ∨ v = 2) by omega), if_neg (show ¬ (v = 3 ∨ v = 4) by omega), if_neg (show ¬ v = 5 by omega)]
  refine F2.rg ?_
  obtain ⟨a1, a2, a3, a4, a5, a6, a7⟩ := G
  exact ⟨(w1_at (by decide)).trans a1, a2, (w1_at (by decide)).trans a3, (w1_at (by decide)).trans a4, w1_eq.trans r, a6, a7⟩
theorem grl_56 {v : Nat} {Q : tf_Q} (hv : v < 6) (n1 : v ≠ 1) (n2 : v ≠ 2) (q : lx_X9_gridLine 298 (tf_Cd 298 (d + 5)) Q 56 [.ref 270, .long (px_W.getD v 0), tf_z, tf_z] [] h) : tf_Cd 298 (d + 6) 18 [.ref 270, .long (px_W.getD v 0)] h Q := by
  have a : ∀ v, v < 6 → px_ru (px_W.getD v 0) = -1 := by decide
  exact grl_34 (by omega) n1 n2 (go_X9_gridLine_34 (by decide) (sx_ruleBy (d := d + 4) _ _ (go_X9_gridLine_38 (by decide) ⟨fun _ => q, fun z => absurd (a v hv) z⟩)))
theorem px_rd27 (x : Int32) : vp_in (px_rd x 2 7) 100 := by
  unfold px_rd
  split
  · rename_i z
    unfold rf_in at z
    simp only [Bool.and_eq_true, Bool.not_eq_true', decide_eq_false_iff_not] at z
    obtain ⟨m, h1, h2, e⟩ := wt_in (lo := 2) (hi := 7) z.1 (Int32.not_lt.mp z.2) (by decide) (by decide)
    rw [e]
    exact vi_of (by omega) (by omega)
  · exact vi_of (j := 2) (by omega) (by omega)
theorem grl_pts {L b : Nat} {s : px_S} (hL : L ≤ 400) (ec : (fun i => h.1 272 i &&& 255) = c) (P : PB h c L b) (t1 : px_t c L b = 1) (G : RGs h s) (R : RD h) : tf_Sp (d + 6) 18 [.ref 270, .long (px_W.getD 0 0)] h (fun x g => LX h g c L (px_ns c L 1 (px_nx c L b)) x (px_sl 0 b (px_ns c L 1 (px_nx c L b)).1 s)) := by
  intro Q q
  refine grl_56 (by omega) (by omega) (by omega) (go_X9_gridLine_56 (by decide) ⟨fun _ => P.tok (d := d + 3) hL ec (by rw [t1]; decide) _ (fun _ g1 p1 => go_X9_gridLine_68 (by decide) ?_), fun z => absurd (show lg_cmp (px_W.getD 0 0) 123623812527219 = 0 by decide) z⟩)
  obtain ⟨F1, P1⟩ := p1
  generalize px_nx c L b = b1 at P1 q
  have ec1 : (fun i => g1.1 272 i &&& 255) = c := by rw [F1.1 272 (by decide)]; exact ec
  have R1 : RD g1 := R.same (F1.1 275 (by decide))
  have G1 := F1.rg G
  refine sx_takes (d := d + 2) (k := 0) hL ec1 P1 (by omega) _ (fun v g2 p2 => ?_)
  by_cases t : px_t c L b1 = 2
  · obtain ⟨rfl, P2, F2, a2, z2⟩ := p2.2 t
    have a2 : g2.1 275 0 = px_rd (px_num c L b1) 2 7 := a2
    rw [px_nsS t, px_ns] at q
    have e0 : (0 : Int32).toNatClampNeg = 0 := rfl
    refine go_X9_gridLine_76 (by decide) ⟨rfl, ?_⟩
    rw [e0, a2]
    refine q _ (w1 g2 270 18 (px_rd (px_num c L b1) 2 7)) (LX.yes ((F1.ln.tr F2.ln).tr (FLn.w (Or.inr ⟨rfl, by decide⟩))) ((R1.tq F2.2.2 a2 (px_rd27 _)).same (w1_ne (by decide))) (P2.same (fun i hi => w1_at (by omega)) rfl) ?_)
    obtain ⟨a1, a2, a3, a4, a5, a6, a7⟩ := G1
    refine ⟨?_, ?_, w1_eq, ?_, ?_, ?_, ?_⟩
    · rw [w1_at (by decide), z2, a1]
      rfl
    · rw [w1_ne (by decide), F2.1 278 (by decide) (by decide)]; exact a2
    · rw [w1_at (by decide), F2.2.1 19 (by decide) (by decide) (by decide) (by decide) (by decide)]; exact a4
    · rw [w1_at (by decide), F2.2.1 20 (by decide) (by decide) (by decide) (by decide) (by decide)]; exact a5
    · rw [w1_ne (by decide), F2.1 276 (by decide) (by decide)]; exact a6
    · rw [w1_ne (by decide), F2.1 277 (by decide) (by decide)]; exact a7
  · obtain ⟨rfl, rfl⟩ := p2.1 t
    rw [px_nsF t] at q
    exact go_X9_gridLine_76 (by decide) ⟨rfl, q _ (w1 (w1 g1 270 12 (nI b1)) 270 18 _) (LX.no ((F1.ln.tr (FLn.w (Or.inr ⟨rfl, by decide⟩))).tr (FLn.w (Or.inr ⟨rfl, by decide⟩))) ((R1.same (w1_ne (by decide))).same (w1_ne (by decide))) ((w1_at (by decide)).trans w1_eq))⟩
theorem grl_89 {v : Nat} {Q : tf_Q} (hv : v < 6) (n0 : v ≠ 0) (n1 : v ≠ 1) (n2 : v ≠ 2) (q : lx_X9_gridLine 298 (tf_Cd 298 (d + 5)) Q 89 [.ref 270, .long (px_W.getD v 0), tf_z, tf_z] [] h) : tf_Cd 298 (d + 6) 18 [.ref 270, .long (px_W.getD v 0)] h Q := by
  have a : ∀ v, v < 6 → v ≠ 0 → ¬ lg_cmp (px_W.getD v 0) 123623812527219 = 0 := by decide
  exact grl_56 hv n1 n2 (go_X9_gridLine_56 (by decide) ⟨fun z => absurd z (a v hv n0), fun _ => q⟩)
theorem px_rdn {x : Int32} {n : Nat} (hn : n ≤ 14) (z : rf_in (px_rd x 0 (nI n - 1)) 0 (nI n - 1) = true) : ∃ m, m < n ∧ px_rd x 0 (nI n - 1) = nI m := by
  rcases Nat.eq_zero_or_pos n with hk0 | hk0
  · exfalso
    rw [hk0] at z
    unfold rf_in at z
    rw [Bool.and_eq_true, Bool.not_eq_true', Bool.not_eq_true', decide_eq_false_iff_not, decide_eq_false_iff_not, Int32.lt_iff_toInt_lt, Int32.lt_iff_toInt_lt] at z
    have a1 : (0 : Int32).toInt = 0 := rfl
    have a2 : (nI 0 - 1).toInt = -1 := rfl
    omega
  · obtain ⟨k', rfl⟩ : ∃ k', n = k' + 1 := ⟨n - 1, by omega⟩
    rw [nI_pred] at z
    obtain ⟨m, -, hm, em⟩ := rf_in_t (l := 0) (u := k') (by omega) z (by omega)
    exact ⟨m, by omega, by rw [nI_pred]; exact em⟩
theorem px_rdv {x : Int32} {n : Nat} (hn : n ≤ 14) : vp_in (px_rd x 0 (nI n - 1)) 100 := by
  by_cases z : rf_in (px_rd x 0 (nI n - 1)) 0 (nI n - 1) = true
  · obtain ⟨m, hm, e⟩ := px_rdn hn z
    rw [e]
    exact vi_of (by omega) (by omega)
  · have e : px_rd x 0 (nI n - 1) = 0 := by
      unfold px_rd at z ⊢
      split
      · rename_i y
        rw [if_pos y] at z
        exact absurd y z
      · rfl
    rw [e]
    exact vi_of (j := 0) (by omega) (by omega)
theorem grl_blk {L b : Nat} {s : px_S} (hL : L ≤ 400) (ec : (fun i => h.1 272 i &&& 255) = c) (P : PB h c L b) (t1 : px_t c L b = 1) (hn : s.n ≤ 14) (G : RGs h s) (R : RD h) : tf_Sp (d + 6) 18 [.ref 270, .long (px_W.getD 5 0)] h (fun x g => LX h g c L (px_ns c L 1 (px_nx c L b)) x (px_sl 5 b (px_ns c L 1 (px_nx c L b)).1 s)) := by
  intro Q q
  refine grl_89 (by omega) (by omega) (by omega) (by omega) (go_X9_gridLine_89 (by decide) ⟨fun _ => P.tok (d := d + 3) hL ec (by rw [t1]; decide) _ (fun _ g1 p1 => go_X9_gridLine_101 (by decide) ?_), fun z => absurd (show lg_cmp (px_W.getD 5 0) 422726034283 = 0 by decide) z⟩)
  obtain ⟨F1, P1⟩ := p1
  generalize px_nx c L b = b1 at P1 q
  have ec1 : (fun i => g1.1 272 i &&& 255) = c := by rw [F1.1 272 (by decide)]; exact ec
  have R1 : RD g1 := R.same (F1.1 275 (by decide))
  have G1 := F1.rg G
  rw [G1.2.2.2.1]
  refine sx_takes (d := d + 2) (k := 0) hL ec1 P1 (by omega) _ (fun v g2 p2 => ?_)
  by_cases t : px_t c L b1 = 2
  · obtain ⟨rfl, P2, F2, a2, z2⟩ := p2.2 t
    have a2 : g2.1 275 0 = px_rd (px_num c L b1) 0 (nI s.n - 1) := a2
    have z2 : g2.1 270 13 = px_bt (px_num c L b1) 0 (nI s.n - 1) b1 (g1.1 270 13) := z2
    have e19 : g2.1 270 19 = nI s.n := by rw [F2.2.1 19 (by decide) (by decide) (by decide) (by decide) (by decide)]; exact G1.2.2.2.1
    rw [px_nsS t, px_ns] at q
    have e0 : (0 : Int32).toNatClampNeg = 0 := rfl
    have R2 : RD g2 := R1.tq F2.2.2 a2 (px_rdv hn)
    have G2 : ∀ tl, tl = (if rf_in (px_rd (px_num c L b1) 0 (nI s.n - 1)) 0 (nI s.n - 1) = true then px_pw s.tl (7 * (px_rd (px_num c L b1) 0 (nI s.n - 1)).toNatClampNeg + 6) 1 else s.tl) → ∀ g3 : LH, (∀ e, e ≠ 277 → g3.1 e = g2.1 e) → g3.1 277 = tl → RGs g3 (px_sl 5 b [(px_num c L b1, b1)] s) := by
      rintro tl rfl g3 o3 e3
      obtain ⟨a1, a2, a3, a4, a5, a6, a7⟩ := G1
      refine ⟨?_, ?_, ?_, ?_, ?_, ?_, e3⟩
      · rw [o3 270 (by decide), z2, a1]
        rfl
      · rw [o3 278 (by decide), F2.1 278 (by decide) (by decide)]; exact a2
      · rw [o3 270 (by decide), F2.2.1 18 (by decide) (by decide) (by decide) (by decide) (by decide)]; exact a3
      · rw [o3 270 (by decide)]; exact e19
      · rw [o3 270 (by decide), F2.2.1 20 (by decide) (by decide) (by decide) (by decide) (by decide)]; exact a5
      · rw [o3 276 (by decide), F2.1 276 (by decide) (by decide)]; exact a6
    have e7 : g2.1 277 = s.tl := by rw [F2.1 277 (by decide) (by decide)]; exact G1.2.2.2.2.2.2
    refine go_X9_gridLine_113 (by decide) ⟨fun z => absurd z (by decide), fun _ => ?_⟩
    rw [e0, a2, e19]
    refine sx_in (d := d + 4) _ _ _ _ (go_X9_gridLine_134 (by decide) ⟨fun z => go_X9_gridLine_155 (by decide) ⟨rfl, q _ g2 (LX.yes (F1.ln.tr F2.ln) R2 P2 (G2 _ rfl g2 (fun _ _ => rfl) ?_))⟩, fun z => ?_⟩)
    · rw [bI_0] at z
      rw [if_neg (by rw [z]; decide)]
      exact e7
    · rw [bI_0, Bool.not_eq_false] at z
      obtain ⟨m, hm, em⟩ := px_rdn hn z
      have e6 : (7 * px_rd (px_num c L b1) 0 (nI s.n - 1) + 6 : Int32).toNatClampNeg = 7 * (px_rd (px_num c L b1) 0 (nI s.n - 1)).toNatClampNeg + 6 := by
        rw [em, show (6 : Int32) = nI 6 from rfl, i7k, nI_clamp (by omega), nI_clamp (by omega)]
      have v6 : vp_in (7 * px_rd (px_num c L b1) 0 (nI s.n - 1) + 6 : Int32) 98 := by
        rw [em, show (6 : Int32) = nI 6 from rfl, i7k]
        exact vi_of (by omega) (by omega)
      rw [e0, a2, e6]
      refine ⟨v6, go_X9_gridLine_155 (by decide) ⟨rfl, q _ (w1 g2 277 (7 * (px_rd (px_num c L b1) 0 (nI s.n - 1)).toNatClampNeg + 6) 1) (LX.yes ((F1.ln.tr F2.ln).tr (FLn.w (Or.inl (by decide)))) (R2.same (w1_ne (by decide))) (P2.same (fun i hi => by rw [w1_ne (by decide)]) rfl) (G2 _ rfl _ (fun e he => w1_ne he) ?_))⟩⟩
      rw [if_pos z]
      funext i
      unfold px_pw
      by_cases ii : i = 7 * (px_rd (px_num c L b1) 0 (nI s.n - 1)).toNatClampNeg + 6
      · rw [if_pos ii, ii, w1_eq]
      · rw [if_neg ii, w1_at ii, e7]
  · obtain ⟨rfl, rfl⟩ := p2.1 t
    rw [px_nsF t] at q
    exact go_X9_gridLine_113 (by decide) ⟨fun _ => go_X9_gridLine_155 (by decide) ⟨rfl, q _ (w1 g1 270 12 (nI b1)) (LX.no (F1.ln.tr (FLn.w (Or.inr ⟨rfl, by decide⟩))) (R1.same (w1_ne (by decide))) w1_eq)⟩, fun z => absurd rfl z⟩
theorem grl_sup {L b v : Nat} {s : px_S} (hL : L ≤ 400) (ec : (fun i => h.1 272 i &&& 255) = c) (P : PB h c L b) (t1 : px_t c L b = 1) (G : RGs h s) (R : RD h) (hv : v = 3 ∨ v = 4) : tf_Sp (d + 6) 18 [.ref 270, .long (px_W.getD v 0)] h (fun x g => LX h g c L (px_ns c L 2 (px_nx c L b)) x (px_sl v b (px_ns c L 2 (px_nx c L b)).1 s)) := by
  intro Q q
  have w3 : lg_cmp (px_W.getD v 0) 126948234783865 = 0 ↔ v = 3 := by rcases hv with rfl | rfl <;> decide
  have key : lx_X9_gridLine 298 (tf_Cd 298 (d + 5)) Q 178 [.ref 270, .long (px_W.getD v 0), tf_z, tf_z] [] h := by
    refine go_X9_gridLine_178 (by decide) (P.tok (d := d + 3) hL ec (by rw [t1]; decide) _ (fun _ g1 p1 => go_X9_gridLine_182 (by decide) ?_))
    obtain ⟨F1, P1⟩ := p1
    generalize px_nx c L b = b1 at P1 q
    have ec1 : (fun i => g1.1 272 i &&& 255) = c := by rw [F1.1 272 (by decide)]; exact ec
    have R1 : RD g1 := R.same (F1.1 275 (by decide))
    have G1 := F1.rg G
    refine sx_tpt (d := d + 1) (k := 0) hL ec1 P1 (by omega) _ (fun x g2 p2 => ?_)
    by_cases t : px_t c L b1 = 2
    · obtain ⟨rfl, P2, F2, a2, z2, w2'⟩ := p2.2 t
      rw [if_neg px_rdm] at z2
      rw [px_nsS t] at q
      refine go_X9_gridLine_188 (by decide) ⟨fun z => absurd z (by decide), fun _ => ?_⟩
      generalize px_nx c L b1 = b2 at q P2
      have ec2 : (fun i => g2.1 272 i &&& 255) = c := by rw [F2.1 272 (by decide) (by decide) (by decide)]; exact ec1
      have R2 : RD g2 := R1.tq F2.2.2 a2 (px_rd100 (px_num99 t) (vi_of (j := 0) (by omega) (by omega)))
      refine sx_takes (d := d + 2) (k := 1) hL ec2 P2 (by omega) _ (fun x g3 p3 => ?_)
      by_cases t' : px_t c L b2 = 2
      · obtain ⟨rfl, P3, F3, a3, z3⟩ := p3.2 t'
        rw [if_pos (px_in99 t')] at a3 z3
        rw [px_nsS t', px_ns] at q
        have R3 : RD g3 := by
          obtain ⟨m, hm, e⟩ := px_num99 t'
          exact R2.tq F3.2.2 a3 (by rw [e]; exact vi_of (by omega) (by omega))
        have x0 : g3.1 275 0 = px_rd (px_num c L b1) 0 6 := by rw [F3.2.2 0 (by decide)]; exact a2
        have v7 := px_rd7 (px_num c L b1)
        have fin : ∀ y : Int32, y = (if v = 3 then px_num c L b2 else -px_num c L b2) → Q (.int 1) (w1 g3 276 (px_rd (px_num c L b1) 0 6).toNatClampNeg y) := by
          intro y hy
          refine q _ _ (LX.yes (((F1.ln.tr F2.ln).tr F3.ln).tr (FLn.w (Or.inl (by decide)))) (R3.same (w1_ne (by decide))) (P3.same (fun i hi => by rw [w1_ne (by decide)]) rfl) ?_)
          obtain ⟨b1', b2', b3, b4, b5, b6, b7⟩ := G1
          unfold RGs px_sl
          rw [if_neg (show ¬ v = 0 by omega), if_neg (show ¬ (v = 1 ∨ v = 2) by omega), if_pos hv]
          refine ⟨?_, ?_, ?_, ?_, ?_, ?_, ?_⟩
          · rw [w1_ne (by decide), z3, z2, b1']
            rfl
          · funext i
            rw [w1_ne (by decide), F3.1 278 (by decide) (by decide), w2' i, b2']
            rfl
          · rw [w1_ne (by decide), F3.2.1 18 (by decide) (by decide) (by decide) (by decide) (by decide), F2.2.1 18 (by decide) (by decide) (by decide) (by decide) (by decide)]; exact b3
          · rw [w1_ne (by decide), F3.2.1 19 (by decide) (by decide) (by decide) (by decide) (by decide), F2.2.1 19 (by decide) (by decide) (by decide) (by decide) (by decide)]; exact b4
          · rw [w1_ne (by decide), F3.2.1 20 (by decide) (by decide) (by decide) (by decide) (by decide), F2.2.1 20 (by decide) (by decide) (by decide) (by decide) (by decide)]; exact b5
          · funext i
            show _ = px_pw s.su (px_rd (px_num c L b1) 0 6).toNatClampNeg (if v = 3 then px_num c L b2 else -px_num c L b2) i
            unfold px_pw
            by_cases ii : i = (px_rd (px_num c L b1) 0 6).toNatClampNeg
            · rw [if_pos ii, ii, w1_eq]
              exact hy
            · rw [if_neg ii, w1_at ii, F3.1 276 (by decide) (by decide), F2.1 276 (by decide) (by decide) (by decide), b6]
          · rw [w1_ne (by decide), F3.1 277 (by decide) (by decide), F2.1 277 (by decide) (by decide) (by decide)]; exact b7
        have kA : (0 : Int32).toNatClampNeg = 0 := rfl
        have kB : (1 : Int32).toNatClampNeg = 1 := rfl
        refine go_X9_gridLine_199 (by decide) ⟨fun z => absurd z (by decide), fun _ => go_X9_gridLine_204 (by decide) ?_⟩
        rw [kA, kB, x0, a3]
        refine ⟨fun z => go_X9_gridLine_238 (by decide) (show tf_K 276 = 8 by decide) (show tf_N 276 = 7 by decide) (by decide) ⟨v7, fin _ ?_⟩, fun z => go_X9_gridLine_231 (by decide) (show tf_K 276 = 8 by decide) (show tf_N 276 = 7 by decide) (by decide) (go_X9_gridLine_238 (by decide) (show tf_K 276 = 8 by decide) (show tf_N 276 = 7 by decide) (by decide) ⟨v7, fin _ ?_⟩)⟩
        · rw [if_pos (w3.mp z)]
        · rw [if_neg (fun y => z (w3.mpr y)), kB, a3]
      · obtain ⟨rfl, rfl⟩ := p3.1 t'
        rw [px_nsF t'] at q
        exact go_X9_gridLine_199 (by decide) ⟨fun _ => go_X9_gridLine_202 (by decide) (q _ _ (LX.no ((F1.ln.tr F2.ln).tr (FLn.w (Or.inr ⟨rfl, by decide⟩))) (R2.same (w1_ne (by decide))) w1_eq)), fun z => absurd rfl z⟩
    · obtain ⟨rfl, rfl⟩ := p2.1 t
      rw [px_nsF t] at q
      exact go_X9_gridLine_188 (by decide) ⟨fun _ => go_X9_gridLine_202 (by decide) (q _ _ (LX.no (F1.ln.tr (FLn.w (Or.inr ⟨rfl, by decide⟩))) (R1.same (w1_ne (by decide))) w1_eq)), fun z => absurd rfl z⟩
  have b5 : ¬ lg_cmp (px_W.getD v 0) 422726034283 = 0 := by rcases hv with rfl | rfl <;> decide
  have w4 : ¬ v = 3 → lg_cmp (px_W.getD v 0) 2002873972 = 0 := by rcases hv with rfl | rfl <;> decide
  exact grl_89 (by omega) (by omega) (by omega) (by omega) (go_X9_gridLine_89 (by decide) ⟨fun z => absurd z b5, fun _ => go_X9_gridLine_157 (by decide) ⟨fun _ => key, fun z => ⟨fun _ => key, fun y => absurd (w4 (fun e => z (w3.mpr e))) y⟩⟩⟩)
theorem grl_no {L b : Nat} {w : Int64} (P : PB h c L b) (R : RD h) (hw : ∀ v, v < 9 → w ≠ px_W.getD v 0) : tf_Sp (d + 6) 18 [.ref 270, .long w] h (fun x g => FLn h g ∧ RD g ∧ x = .int 0 ∧ g.1 270 12 = nI b) := by
  intro Q q
  have n : ∀ v, v < 9 → ∀ y : Int64, px_W.getD v 0 = y → ¬ lg_cmp w y = 0 := fun v hv y hy z => hw v hv (((lg_0 _ _).mp z).trans hy.symm)
  have r : px_ru w = -1 := by
    unfold px_ru
    rw [if_neg (hw 6 (by omega)), if_neg (hw 7 (by omega)), if_neg (hw 8 (by omega))]
  refine en_X9_gridLine (by decide) (go_X9_gridLine_0 (by decide) ⟨fun z => absurd z (n 1 (by omega) _ rfl), fun _ => ⟨fun z => absurd z (n 2 (by omega) _ rfl), fun _ => go_X9_gridLine_34 (by decide) (sx_ruleBy (d := d + 4) _ _ (go_X9_gridLine_38 (by decide) ⟨fun _ => go_X9_gridLine_56 (by decide) ⟨fun z => absurd z (n 0 (by omega) _ rfl), fun _ => go_X9_gridLine_89 (by decide) ⟨fun z => absurd z (n 5 (by omega) _ rfl), fun _ => go_X9_gridLine_157 (by decide) ⟨fun z => absurd z (n 3 (by omega) _ rfl), fun _ => ⟨fun z => absurd z (n 4 (by omega) _ rfl), fun _ => sx_fails (d := d + 4) _ (go_X9_gridLine_177 (by decide) ⟨rfl, q _ _ ⟨FLn.w (Or.inr ⟨rfl, by decide⟩), R.same (w1_ne (by decide)), rfl, w1_eq.trans P.2.2.1⟩⟩)⟩⟩⟩⟩, fun z => absurd r z⟩))⟩⟩)
end RX8
