/-! ===== the class's script: what was read is looked over ===== -/
section SC3
variable {h g : LH} {d : Nat}
/-- the i-th number of a line -/
def nb (h : LH) (line i : Nat) : Int32 := h.1 262 (line * 4 + i)
/-- the verb of a line -/
def vbn (h : LH) (line : Nat) : Nat := (h.1 260 line).toNatClampNeg
theorem nb_ix {line i : Nat} : nI line * 4 + nI i = nI (line * 4 + i) := by
  rw [show (4 : Int32) = nI 4 from rfl, nI_mul, nI_add]
theorem sx_nb {line i : Nat} {y : Int32} (hl : line < 80) (hi : i < 4) (hy : y = nI i) : tf_Rt (d + 1) 230 [.ref 259, .int (nI line), .int y] h (.int (nb h line i)) h := by
  intro Q q
  subst hy
  refine en_X4_number (go_X4_number_0 ?_)
  rw [nb_ix, nI_clamp (by omega)]
  exact ⟨vi_of (by omega) (by omega), q⟩
theorem FL.nbE {line i : Nat} (F : FL h g) : nb g line i = nb h line i := by
  unfold nb
  rw [F.1 262 (by decide)]
theorem FL.vbE {line : Nat} (F : FL h g) : vbn g line = vbn h line := by
  unfold vbn
  rw [F.1 260 (by decide)]
theorem FL.vb {c : Nat} (F : FL h g) (V : VB h c) : VB g c := V.same (F.1 260 (by decide))
theorem FL.ct {c : Nat} (F : FL h g) (e : h.1 259 0 = nI c) : g.1 259 0 = nI c := (F.2.2 0 (by decide) (by decide)).trans e
theorem sp_want {line i : Nat} {y low high kind : Int32} (hl : line < 80) (hi : i < 4) (hy : y = nI i) (hk : kind ≠ 0) : tf_Sp (d + 2) 231 [.ref 259, .int (nI line), .int y, .int low, .int high, .int kind] h (fun _ g => FL h g ∧ (g.1 259 1 = 0 → h.1 259 1 = 0 ∧ ¬ nb h line i < low ∧ nb h line i ≤ high)) := by
  intro Q q
  have k21 : ∀ x6 : Int32, lx_X4_want (d + 1) (tf_Cd 298 (d + 1)) Q 21 [.ref 259, .int (nI line), .int y, .int low, .int high, .int kind, .int x6] [] h := by
    intro x6
    refine go_X4_want_21 ⟨?_, sx_bl (d := d) _ _ _ (go_X4_want_37 (q _ _ ⟨bl_fl, fun z => absurd z (bl_ne hk)⟩))⟩
    rw [hy, nb_ix]
    exact vi_of (by omega) (by omega)
  exact en_X4_want (go_X4_want_0 (sx_nb (d := d) hl hi hy _ (go_X4_want_6 ⟨fun _ => k21 _, fun c1 => ⟨fun c2 => go_X4_want_37 (q _ _ ⟨FL.rf, fun z => ⟨z, c1, c2⟩⟩), fun _ => k21 _⟩⟩)))
/-- whether a line tells an arc -/
def ia (h : LH) (line : Nat) : Bool := decide (vbn h line = 1) || decide (vbn h line = 2)
theorem sx_ia {c line : Nat} (V : VB h c) (hl : line < c) (hc : c ≤ 80) : tf_Rt (d + 1) 235 [.ref 259, .int (nI line)] h (.int (bI (ia h line))) h := by
  intro Q q
  have e : (nI line).toNatClampNeg = line := nI_clamp (by omega)
  have vl : vp_in (nI line) 80 := vi_of (by omega) (by omega)
  have vv : vp_in (h.1 260 (nI line).toNatClampNeg) 15 := by rw [e]; exact V line hl
  have ev : (h.1 260 (nI line).toNatClampNeg).toNatClampNeg = vbn h line := by rw [e]; rfl
  refine en_X4_isArc (go_X4_isArc_0 ⟨⟨vl, vv⟩, fun c1 => go_X4_isArc_24 (go_X4_isArc_29 ⟨rfl, ?_⟩), fun c1 => ⟨⟨vl, vv⟩, fun c2 => go_X4_isArc_24 (go_X4_isArc_29 ⟨rfl, ?_⟩), fun c2 => go_X4_isArc_28 (go_X4_isArc_29 ⟨rfl, ?_⟩)⟩⟩)
  · rw [ev] at c1
    simpa [ia, c1, bI] using q
  · rw [ev] at c1 c2
    simpa [ia, c1, c2, bI] using q
  · rw [ev] at c1 c2
    simpa [ia, c1, c2, bI] using q
/-- a line of a grid's text that passes -/
def GL (h : LH) (line t : Nat) : Prop := (vbn h line = 0 → ∃ m, 2 ≤ m ∧ m ≤ 7 ∧ nb h line 0 = nI m) ∧ (vbn h line = 1 ∨ vbn h line = 2 → vp_in (nb h line 0) 7 ∧ vp_in (nb h line 1) 7 ∧ t ≠ 14) ∧ (vbn h line = 3 ∨ vbn h line = 4 → vp_in (nb h line 0) 7) ∧ (vbn h line = 5 → ∃ m, m < t ∧ nb h line 0 = nI m)
theorem wt_in {x : Int32} {lo hi : Nat} (c1 : ¬ x < nI lo) (c2 : x ≤ nI hi) (hh : hi < 100000) (hlo : lo < 100000) : ∃ m, lo ≤ m ∧ m ≤ hi ∧ x = nI m := by
  have t1 : ¬ x.toInt < (lo : Int) := by
    rw [Int32.lt_iff_toInt_lt, nI_toInt (by omega)] at c1
    exact c1
  have t2 : x.toInt ≤ (hi : Int) := by
    rw [Int32.le_iff_toInt_le, nI_toInt (by omega)] at c2
    exact c2
  refine ⟨x.toInt.toNat, by omega, by omega, ti_n (by omega) (by omega)⟩
theorem wt_7 {x : Int32} (c1 : ¬ x < 0) (c2 : x ≤ 6) : vp_in x 7 := by
  obtain ⟨m, h1, h2, rfl⟩ := wt_in (lo := 0) (hi := 6) c1 c2 (by decide) (by decide)
  exact vi_of (by omega) (by omega)
theorem tv_sg : ∀ v, v < 15 → ((tv_sm.getD v 0).toInt = 1 → v = 0) ∧ ((tv_sm.getD v 0).toInt = 2 → v = 1) ∧ ((tv_sm.getD v 0).toInt = 3 → v = 2) ∧ ((tv_sm.getD v 0).toInt = 4 → v = 3) ∧ ((tv_sm.getD v 0).toInt = 5 → v = 4) ∧ ((tv_sm.getD v 0).toInt = 6 → v = 5) ∧ (((tv_sm.getD v 0).toInt < 1 ∨ 6 < (tv_sm.getD v 0).toInt) → 6 ≤ v) := by decide +kernel
theorem sp_gl {c line t : Nat} (V : VB h c) (hl : line < c) (hc : c ≤ 80) (ht : t ≤ 80) : tf_Sp (d + 3) 233 [.ref 259, .int (nI line), .int (nI t)] h (fun _ g => FL h g ∧ (g.1 259 1 = 0 → h.1 259 1 = 0 ∧ GL h line t)) := by
  intro Q q
  have e : (nI line).toNatClampNeg = line := nI_clamp (by omega)
  have vl : vp_in (nI line) 80 := vi_of (by omega) (by omega)
  have vv : vp_in (h.1 260 (nI line).toNatClampNeg) 15 := by rw [e]; exact V line hl
  have ev : (h.1 260 (nI line).toNatClampNeg).toNatClampNeg = vbn h line := by rw [e]; rfl
  have v15 : vbn h line < 15 := by rw [← ev]; exact tv_lt vv
  have l80 : line < 80 := by omega
  refine en_X4_checkGridLine (go_X4_checkGridLine_0 ⟨⟨vl, vv⟩, ?_⟩)
  rw [ev]
  obtain ⟨s1, s2, s3, s4, s5, s6, s0⟩ := tv_sg (vbn h line) v15
  have cv : (nI (vbn h line)).toNatClampNeg = vbn h line := nI_clamp (by omega)
  have karc : (vbn h line = 1 ∨ vbn h line = 2) → lx_X4_checkGridLine (d + 2) (tf_Cd 298 (d + 2)) Q 65 [.ref 259, .int (nI line), .int (nI t)] [] h := by
    intro hv
    have k82 : ∀ g : LH, FL h g → (g.1 259 1 = 0 → h.1 259 1 = 0 ∧ t ≠ 14) → lx_X4_checkGridLine (d + 2) (tf_Cd 298 (d + 2)) Q 82 [.ref 259, .int (nI line), .int (nI t)] [] g := by
      intro g F1 z1
      refine go_X4_checkGridLine_82 (sp_want (d := d) (i := 0) l80 (by decide) rfl (by decide) _ (fun _ g2 p2 => go_X4_checkGridLine_92 (sp_want (d := d) (i := 1) l80 (by decide) rfl (by decide) _ (fun _ g3 p3 => go_X4_checkGridLine_102 (sx_nb (d := d + 1) (i := 0) l80 (by decide) rfl _ (go_X4_checkGridLine_108 (sx_nb (d := d + 1) (i := 1) l80 (by decide) rfl _ (go_X4_checkGridLine_114 ⟨fun _ => ⟨?_, sx_bl (d := d + 1) _ _ _ (go_X4_checkGridLine_132 (go_X4_checkGridLine_162 (q _ _ ⟨((F1.tr p2.1).tr p3.1).tr bl_fl, fun z => absurd z (bl_ne (by decide))⟩)))⟩, fun _ => go_X4_checkGridLine_162 (q _ _ ⟨(F1.tr p2.1).tr p3.1, fun z => ?_⟩)⟩))))))))
      · rw [show (1 : Int32) = nI 1 from rfl, nb_ix]
        exact vi_of (by omega) (by omega)
      · obtain ⟨y1, a1, b1⟩ := p3.2 z
        obtain ⟨y2, a2, b2⟩ := p2.2 y1
        obtain ⟨y3, y4⟩ := z1 y2
        rw [p2.1.nbE, F1.nbE] at a1 b1
        rw [F1.nbE] at a2 b2
        exact ⟨y3, fun q0 => absurd q0 (by omega), fun _ => ⟨wt_7 a2 b2, wt_7 a1 b1, y4⟩, fun q0 => absurd q0 (by omega), fun q0 => absurd q0 (by omega)⟩
    refine go_X4_checkGridLine_65 ⟨fun _ => ⟨vl, sx_bl (d := d + 1) _ _ _ (k82 _ bl_fl (fun z => absurd z (bl_ne (by decide))))⟩, fun c1 => k82 h FL.rf (fun z => ⟨z, fun q0 => c1 ?_⟩)⟩
    rw [q0]
    rfl
  have ksup : (vbn h line = 3 ∨ vbn h line = 4) → lx_X4_checkGridLine (d + 2) (tf_Cd 298 (d + 2)) Q 135 [.ref 259, .int (nI line), .int (nI t)] [] h := by
    intro hv
    refine go_X4_checkGridLine_135 (sp_want (d := d) (i := 0) l80 (by decide) rfl (by decide) _ (fun _ g2 p2 => go_X4_checkGridLine_145 (go_X4_checkGridLine_162 (q _ _ ⟨p2.1, fun z => ?_⟩))))
    obtain ⟨y1, a1, b1⟩ := p2.2 z
    exact ⟨y1, fun q0 => absurd q0 (by omega), fun q0 => absurd q0 (by omega), fun _ => wt_7 a1 b1, fun q0 => absurd q0 (by omega)⟩
  refine go_X4_checkGridLine_12 ?_
  rw [cv]
  refine ⟨vi_of v15 (by omega), fun c0 => go_X4_checkGridLine_162 (q _ _ ⟨FL.rf, fun z => ?_⟩), fun c0 => ?_, fun c0 => karc (Or.inl (s2 c0)), fun c0 => karc (Or.inr (s3 c0)), fun c0 => ksup (Or.inl (s4 c0)), fun c0 => ksup (Or.inr (s5 c0)), fun c0 => ?_, trivial⟩
  · have := s0 c0
    exact ⟨z, fun q0 => absurd q0 (by omega), fun q0 => absurd q0 (by omega), fun q0 => absurd q0 (by omega), fun q0 => absurd q0 (by omega)⟩
  · have v0 := s1 c0
    refine go_X4_checkGridLine_52 (sp_want (d := d) (i := 0) l80 (by decide) rfl (by decide) _ (fun _ g2 p2 => go_X4_checkGridLine_62 (go_X4_checkGridLine_162 (q _ _ ⟨p2.1, fun z => ?_⟩))))
    obtain ⟨y1, a1, b1⟩ := p2.2 z
    exact ⟨y1, fun _ => wt_in (lo := 2) (hi := 7) a1 b1 (by decide) (by decide), fun q0 => absurd q0 (by omega), fun q0 => absurd q0 (by omega), fun q0 => absurd q0 (by omega)⟩
  · have v5 := s6 c0
    refine go_X4_checkGridLine_148 (sp_want (d := d) (i := 0) l80 (by decide) rfl (by decide) _ (fun _ g2 p2 => go_X4_checkGridLine_159 (go_X4_checkGridLine_162 (q _ _ ⟨p2.1, fun z => ?_⟩))))
    obtain ⟨y1, a1, b1⟩ := p2.2 z
    refine ⟨y1, fun q0 => absurd q0 (by omega), fun q0 => absurd q0 (by omega), fun q0 => absurd q0 (by omega), fun _ => ?_⟩
    cases t with
    | zero =>
      exfalso
      have b2 : (nb h line 0).toInt ≤ -1 := by
        rw [Int32.le_iff_toInt_le] at b1
        exact b1
      have a2 : ¬ (nb h line 0).toInt < 0 := by
        rw [Int32.lt_iff_toInt_lt] at a1
        exact a1
      omega
    | succ t =>
      rw [nI_pred] at b1
      obtain ⟨m, _, m2, m3⟩ := wt_in (lo := 0) (hi := t) a1 b1 (by omega) (by decide)
      exact ⟨m, by omega, m3⟩
/-- all lines pass -/
def AGr (h : LH) (c : Nat) : Prop := ∀ line, line < c → (vbn h line = 0 → ∃ m, 2 ≤ m ∧ m ≤ 7 ∧ nb h line 0 = nI m) ∧ (vbn h line = 1 ∨ vbn h line = 2 → vp_in (nb h line 0) 7 ∧ vp_in (nb h line 1) 7) ∧ (vbn h line = 3 ∨ vbn h line = 4 → vp_in (nb h line 0) 7) ∧ (vbn h line = 5 → vp_in (nb h line 0) 21)
theorem AGr.same {c : Nat} (G : AGr h c) (e0 : g.1 260 = h.1 260) (e2 : g.1 262 = h.1 262) : AGr g c := by
  intro line hl
  have a := G line hl
  unfold vbn nb at a ⊢
  rw [e0, e2]
  exact a
/-- the points told: a number for which P holds -/
theorem pt_L {P : Int32 → Prop} {c : Nat} (V : VB h c) (hc : c ≤ 80) (e0 : h.1 259 0 = nI c) (hP : ∀ line, line < c → vbn h line = 0 → P (nb h line 0)) {Q : tf_Q} (q : ∀ x, P x → Q (.int x) h) : ∀ (f i : Nat) (x : Int32), i + f = c → P x → lx_X4_pointsTold (d + 1) (tf_Cd 298 (d + 1)) Q 4 [.ref 259, .int x, .int (nI i)] [] h
  | 0, i, x, hf, px => go_X4_pointsTold_4 ⟨fun _ => go_X4_pointsTold_37 (q x px), fun c1 => absurd (by rw [e0]; exact nI_le (by omega) (by omega)) c1⟩
  | f + 1, i, x, hf, px => by
    have e : (nI i).toNatClampNeg = i := nI_clamp (by omega)
    refine go_X4_pointsTold_4 ⟨fun c1 => absurd (by rw [e0] at c1; exact c1) (nI_ge (by omega) (by omega)), fun _ => ?_⟩
    rw [e]
    refine ⟨⟨vi_of (by omega) (by omega), V i (by omega)⟩, fun c1 => sx_nb (d := d) (i := 0) (by omega) (by decide) rfl _ (go_X4_pointsTold_30 (go_X4_pointsTold_31 ?_)), fun _ => go_X4_pointsTold_31 ?_⟩
    · rw [nI_1]
      exact pt_L V hc e0 hP q f (i + 1) _ (by omega) (hP i (by omega) c1)
    · rw [nI_1]
      exact pt_L V hc e0 hP q f (i + 1) x (by omega) px
theorem sp_ptd {P : Int32 → Prop} {c : Nat} (V : VB h c) (hc : c ≤ 80) (e0 : h.1 259 0 = nI c) (hP : ∀ line, line < c → vbn h line = 0 → P (nb h line 0)) (p2 : P 2) : tf_Sp (d + 2) 236 [.ref 259] h (fun v g => g = h ∧ ∃ x, v = .int x ∧ P x) := fun Q q => en_X4_pointsTold (go_X4_pointsTold_0 (pt_L V hc e0 hP (fun x px => q _ _ ⟨rfl, x, rfl, px⟩) c 0 2 (by omega) p2))
theorem cp_L {c : Nat} {x1 : Int32} (hc : c ≤ 80) {Q : tf_Q} (q : ∀ g, FL h g → (g.1 259 1 = 0 → h.1 259 1 = 0) → Q tf_z g) : ∀ (f i : Nat) (g : LH), i + f = c → VB g c → g.1 259 0 = nI c → FL h g → (g.1 259 1 = 0 → h.1 259 1 = 0) → lx_X4_checkPointsThere (d + 2) (tf_Cd 298 (d + 2)) Q 9 [.ref 259, .int x1, .int (nI i)] [] g
  | 0, i, g, hf, V, e0, F, z => go_X4_checkPointsThere_9 ⟨fun _ => go_X4_checkPointsThere_85 (q g F z), fun c1 => absurd (by rw [e0]; exact nI_le (by omega) (by omega)) c1⟩
  | f + 1, i, g, hf, V, e0, F, z => by
    have e : (nI i).toNatClampNeg = i := nI_clamp (by omega)
    have nx : ∀ g2, FL g g2 → (g2.1 259 1 = 0 → g.1 259 1 = 0) → lx_X4_checkPointsThere (d + 2) (tf_Cd 298 (d + 2)) Q 79 [.ref 259, .int x1, .int (nI i)] [] g2 := by
      intro g2 F2 z2
      refine go_X4_checkPointsThere_79 ?_
      rw [nI_1]
      exact cp_L hc q f (i + 1) g2 (by omega) (F2.vb V) (F2.ct e0) (F.tr F2) (fun y => z (z2 y))
    have k70 : lx_X4_checkPointsThere (d + 2) (tf_Cd 298 (d + 2)) Q 70 [.ref 259, .int x1, .int (nI i)] [] g := go_X4_checkPointsThere_70 (sp_want (d := d) (i := 0) (by omega) (by decide) rfl (by decide) _ (fun _ g2 p => nx g2 p.1 (fun y => (p.2 y).1)))
    refine go_X4_checkPointsThere_9 ⟨fun c1 => absurd (by rw [e0] at c1; exact c1) (nI_ge (by omega) (by omega)), fun _ => sx_ia (d := d + 1) V (by omega) hc _ (go_X4_checkPointsThere_22 ⟨fun _ => go_X4_checkPointsThere_46 ?_, fun _ => sp_want (d := d) (i := 0) (by omega) (by decide) rfl (by decide) _ (fun _ g2 p => go_X4_checkPointsThere_34 (sp_want (d := d) (i := 1) (by omega) (by decide) rfl (by decide) _ (fun _ g3 p3 => go_X4_checkPointsThere_43 (nx g3 (p.1.tr p3.1) (fun y => (p.2 (p3.2 y).1).1)))))⟩)⟩
    have vl : vp_in (nI i) 80 := vi_of (by omega) (by omega)
    have vv : vp_in (g.1 260 (nI i).toNatClampNeg) 15 := by rw [e]; exact V i (by omega)
    exact ⟨⟨vl, vv⟩, fun _ => k70, fun _ => ⟨⟨vl, vv⟩, fun _ => k70, fun _ => nx g FL.rf id⟩⟩
theorem sp_cpt {c : Nat} (V : VB h c) (hc : c ≤ 80) (e0 : h.1 259 0 = nI c) : tf_Sp (d + 3) 234 [.ref 259] h (fun _ g => FL h g ∧ (g.1 259 1 = 0 → h.1 259 1 = 0)) := by
  intro Q q
  refine en_X4_checkPointsThere (go_X4_checkPointsThere_0 (sp_ptd (d := d) (P := fun _ => True) V hc e0 (fun _ _ _ => trivial) trivial _ (fun v g p => ?_)))
  obtain ⟨rfl, x, rfl, -⟩ := p
  exact go_X4_checkPointsThere_4 (cp_L hc (fun g2 F z => q _ g2 ⟨F, z⟩) c 0 g (by omega) V e0 FL.rf id)
end SC3
