/-! ===== the reference's questions leave its row and its undo rows ===== -/
section RUA
variable {h g : LH} {n k M d : Nat} {P : Nat → Int}
def OS (h g : LH) : Prop := OF h g ∧ (∀ i, i < 170 → g.1 271 i = h.1 271 i) ∧ g.1 274 = h.1 274 ∧ g.1 270 5 = h.1 270 5
theorem OS.rf : OS h h := ⟨OF.rf, fun _ _ => rfl, rfl, rfl⟩
theorem OS.tr {f : LH} (x : OS h g) (y : OS g f) : OS h f := ⟨x.1.tr y.1, fun i hi => (y.2.1 i hi).trans (x.2.1 i hi), y.2.2.1.trans x.2.2.1, y.2.2.2.trans x.2.2.2⟩
theorem OS.w0 {v : Int32} : OS h (w1 h 270 0 v) := ⟨OF.w0, fun i _ => by rw [w1_ne (by decide)], w1_ne (by decide), w1_at (by decide)⟩
theorem Fl.os (F : Fl h g) : OS h g := ⟨F.of, fun i _ => by rw [F.r], F.1 274 (by decide), by rw [F.1 270 (by decide)]⟩
theorem Fj.os (F : Fj h g) : OS h g := ⟨F.of, fun i _ => by rw [F.1 271 (by decide) (by decide) (by decide)], F.1 274 (by decide) (by decide) (by decide), F.2.2 5 (by decide) (by decide)⟩
theorem ScF.os (F : ScF h g) : OS h g := ⟨F.of, fun i _ => by rw [F.1 271 (by decide) (by decide)], F.1 274 (by decide) (by decide), F.2⟩
def RQS (kn : Nat) (As : List Value) (h : LH) (N : Nat) : Prop := tf_Sp 11 kn (.ref 270 :: As) h (fun v g => (∃ x, v = .int x) ∧ RI g N ∧ OS h g)
theorem RI.lts (R : RI h M) : ∃ n k, GI (w1 h 270 0 0) n k M ∧ GI (lt (w1 h 270 0 0) n k) n k M ∧ RI (lt (w1 h 270 0 0) n k) M ∧ OS h (lt (w1 h 270 0 0) n k) := by
  have R1 := R.w0 (i := 0) (v := 0) (by decide)
  obtain ⟨n, k, G⟩ := R1.1
  have F := lt_fl (h := w1 h 270 0 0) (n := n) (k := k)
  exact ⟨n, k, G, G.fl F, R1.fl F, OS.w0.tr F.os⟩
theorem rs_grid (R : RI h M) (x : Int32) : RQS 72 [.int x] h M := by
  intro Q q
  obtain ⟨n, k, G, G2, R2, F2⟩ := R.lts
  refine en_X9_grid (by decide) (go_X9_grid_0 (by decide) (sx_lt (h := w1 h 270 0 0) (d := 7) G.1 _ (go_X9_grid_9 (by decide) ?_)))
  have q2 : ∀ x : Int32, Q (.int x) (lt (w1 h 270 0 0) n k) := fun x => q _ _ ⟨⟨x, rfl⟩, R2, F2⟩
  generalize lt (w1 h 270 0 0) n k = g at *
  have a72 : ∀ m : Nat, m < 3 → x.toInt = (m : Int) → lx_X9_grid 298 (tf_Cd 298 10) Q 72 [.ref 270, .int x] [] g := fun m hm e => go_X9_grid_72 (by decide) (by
    rw [ti_n (by omega) e]
    exact ⟨vi_of (by omega) (by omega), q2 _⟩)
  have a97 : ∀ m : Nat, 5 ≤ m → m < 9 → x.toInt = (m : Int) → lx_X9_grid 298 (tf_Cd 298 10) Q 97 [.ref 270, .int x] [] g := fun m h5 hm e => go_X9_grid_97 (by decide) (by
    have : (3 : Int32) + x - 5 = nI (3 + m - 5) := by
      rw [ti_n (by omega) e, show (3 : Int32) = nI 3 from rfl, show (5 : Int32) = nI 5 from rfl, nI_add, nI_sub (by omega)]
    rw [this]
    exact ⟨vi_of (by omega) (by omega), q2 _⟩)
  exact ⟨fun _ => go_X9_grid_127 (by decide) (q2 _), fun e => a72 0 (by omega) e, fun e => a72 1 (by omega) e, fun e => a72 2 (by omega) e, fun _ => go_X9_grid_79 (by decide) (sx_many (d := 6) G2.1 _ (go_X9_grid_83 (by decide) ⟨fun _ => go_X9_grid_91 (by decide) (q2 _), fun _ => go_X9_grid_90 (by decide) (go_X9_grid_91 (by decide) (q2 _))⟩)), fun _ => go_X9_grid_92 (by decide) ((pv_un (d := 9) G2.1).c fun y => go_X9_grid_96 (by decide) (q2 _)), fun e => a97 5 (by omega) (by omega) e, fun e => a97 6 (by omega) (by omega) e, fun e => a97 7 (by omega) (by omega) e, fun e => a97 8 (by omega) (by omega) e, fun _ => go_X9_grid_108 (by decide) (sx_many (d := 6) G2.1 _ (go_X9_grid_112 (by decide) (q2 _))), fun _ => go_X9_grid_113 (by decide) (q2 _), fun _ => go_X9_grid_122 (by decide) (q2 _), trivial⟩
theorem rs_arc (R : RI h M) (x y : Int32) : RQS 73 [.int x, .int y] h M := by
  intro Q q
  obtain ⟨n0, k0, G0⟩ := R.1
  have e24b : ∀ v : Int32, ¬ v ≤ 0 → lx_X9_arc 298 (tf_Cd 298 10) Q 24 [.ref 270, .int x, .int y] [.int v, .ref 270] h := by
    intro v hv
    have e : (w1 h 270 0 v).1 270 0 = v := w1_eq
    refine go_X9_arc_24 (by decide) ⟨fun z => absurd (show (w1 h 270 0 v).1 270 0 ≤ 0 from z) (by rw [e]; exact hv), fun _ => q _ _ ⟨⟨_, rfl⟩, R.w0 (i := 0) (by decide), OS.w0⟩⟩
  refine en_X9_arc (by decide) (go_X9_arc_0 (by decide) (sx_risArc (d := 8) x _ (go_X9_arc_6 (by decide) ⟨fun _ => go_X9_arc_23 (by decide) (e24b _ (by decide)), fun c => sx_in (d := 9) _ _ _ _ (go_X9_arc_16 (by decide) ⟨fun _ => go_X9_arc_23 (by decide) (e24b _ (by decide)), fun c2 => ?_⟩)⟩)))
  rw [bI_0, Bool.not_eq_false] at c c2
  obtain ⟨a, ha, ea⟩ := rf_arc_t G0.1 c
  obtain ⟨w, -, hw, ew⟩ := rf_in_t (l := 0) (u := 7) (by omega) c2 (by omega)
  have e : (w1 h 270 0 0).1 270 0 = 0 := w1_eq
  refine go_X9_arc_24 (by decide) ⟨fun _ => go_X9_arc_36 (by decide) ?_, fun z => absurd (show (w1 h 270 0 0).1 270 0 ≤ 0 by rw [e]; decide) z⟩
  have R1 := R.w0 (i := 0) (v := 0) (by decide)
  have G : GI (w1 h 270 0 0) n0 k0 M := G0.w (by decide)
  have F := lt_fl (h := w1 h 270 0 0) (n := n0) (k := k0)
  have q2 : ∀ x : Int32, Q (.int x) (lt (w1 h 270 0 0) n0 k0) := fun x => q _ _ ⟨⟨x, rfl⟩, R1.fl F, OS.w0.tr F.os⟩
  have G2 := G.fl F
  refine sx_lt (h := w1 h 270 0 0) (d := 7) G.1 _ (go_X9_arc_40 (by decide) ?_)
  generalize lt (w1 h 270 0 0) n0 k0 = g at *
  have hn := G0.1.1
  refine ⟨fun _ => sx_of (d := 9) a 6 ea rfl (by omega) (by omega) _ (go_X9_arc_52 (by decide) ⟨fun _ => go_X9_arc_66 (by decide) (q2 _), fun _ => go_X9_arc_60 (by decide) (sx_of (d := 9) a 5 ea rfl (by omega) (by omega) _ (go_X9_arc_66 (by decide) (q2 _)))⟩), fun c5 => go_X9_arc_67 (by decide) ⟨fun _ => sx_rred (d := 8) G2.1 a ea ha _ (go_X9_arc_78 (by decide) (go_X9_arc_109 (by decide) (q2 _))), fun c6 => go_X9_arc_81 (by decide) ⟨fun _ => sx_roff (d := 7) G2.1 a ea ha _ (go_X9_arc_92 (by decide) ⟨fun _ => go_X9_arc_99 (by decide) (go_X9_arc_109 (by decide) (q2 _)), fun _ => go_X9_arc_109 (by decide) (q2 _)⟩), fun c7 => go_X9_arc_103 (by decide) (sx_of (d := 9) a w ea ew (by omega) ?_ _ (go_X9_arc_109 (by decide) (q2 _)))⟩⟩⟩
  have : w ≠ 7 := fun z => c7 (by rw [ew, z]; rfl)
  omega
theorem rs_point (R : RI h M) (x y : Int32) : RQS 75 [.int x, .int y] h M := by
  intro Q q
  obtain ⟨n0, k0, G0⟩ := R.1
  have e24b : ∀ v : Int32, ¬ v ≤ 0 → lx_X9_point 298 (tf_Cd 298 10) Q 24 [.ref 270, .int x, .int y] [.int v, .ref 270] h := by
    intro v hv
    have e : (w1 h 270 0 v).1 270 0 = v := w1_eq
    refine go_X9_point_24 (by decide) ⟨fun z => absurd (show (w1 h 270 0 v).1 270 0 ≤ 0 from z) (by rw [e]; exact hv), fun _ => q _ _ ⟨⟨_, rfl⟩, R.w0 (i := 0) (by decide), OS.w0⟩⟩
  refine en_X9_point (by decide) (go_X9_point_0 (by decide) (sx_risPt (d := 8) x _ (go_X9_point_6 (by decide) ⟨fun _ => go_X9_point_23 (by decide) (e24b _ (by decide)), fun c => sx_in (d := 9) _ _ _ _ (go_X9_point_16 (by decide) ⟨fun _ => go_X9_point_23 (by decide) (e24b _ (by decide)), fun c2 => ?_⟩)⟩)))
  rw [bI_0, Bool.not_eq_false] at c c2
  have hn := G0.1.1
  have hp : ∃ p, p < n0 ∧ x = nI p := by
    unfold rf_isPt at c
    have e : h.1 271 0 - 1 = nI (n0 - 1) := by
      rw [G0.1.2.1, show n0 = n0 - 1 + 1 by omega]
      exact nI_pred _
    rw [e] at c
    obtain ⟨j, -, h2, h3⟩ := rf_in_t (l := 0) (u := n0 - 1) (by omega) c (by omega)
    exact ⟨j, by omega, h3⟩
  obtain ⟨p, hp, ep⟩ := hp
  subst ep
  have e : (w1 h 270 0 0).1 270 0 = 0 := w1_eq
  refine go_X9_point_24 (by decide) ⟨fun _ => go_X9_point_36 (by decide) ?_, fun z => absurd (show (w1 h 270 0 0).1 270 0 ≤ 0 by rw [e]; decide) z⟩
  have R1 := R.w0 (i := 0) (v := 0) (by decide)
  have G : GI (w1 h 270 0 0) n0 k0 M := G0.w (by decide)
  have F := lt_fl (h := w1 h 270 0 0) (n := n0) (k := k0)
  have T := G.lt
  have q2 : ∀ x : Int32, Q (.int x) (lt (w1 h 270 0 0) n0 k0) := fun x => q _ _ ⟨⟨x, rfl⟩, R1.fl F, OS.w0.tr F.os⟩
  refine sx_lt (h := w1 h 270 0 0) (d := 7) G.1 _ (go_X9_point_40 (by decide) ?_)
  generalize lt (w1 h 270 0 0) n0 k0 = g at *
  have v8 : vp_in (nI p) 8 := vi_of (by omega) (by omega)
  have i44' : (44 : Int32) + nI p = nI (44 + p) := nI_add 44 p
  have i58 : (58 : Int32) + nI p = nI (58 + p) := nI_add 58 p
  have i65' : (65 : Int32) + nI p = nI (65 + p) := nI_add 65 p
  refine ⟨fun _ => go_X9_point_124 (by decide) ?_, fun _ => go_X9_point_80 (by decide) ?_, fun _ => go_X9_point_90 (by decide) ⟨v8, q2 _⟩, fun _ => go_X9_point_97 (by decide) ⟨v8, q2 _⟩, fun _ => go_X9_point_104 (by decide) ⟨v8, q2 _⟩, fun _ => go_X9_point_111 (by decide) ⟨v8, q2 _⟩, fun _ => go_X9_point_118 (by decide) ((pv_be (d := 8) T hp).c fun y => go_X9_point_123 (by decide) (q2 _)), trivial⟩
  · rw [i65', i58]
    exact ⟨vi_of (by omega) (by omega), vi_of (by omega) (by omega), q2 _⟩
  · rw [i44']
    exact ⟨vi_of (by omega) (by omega), q2 _⟩
theorem rs_path (R : RI h M) (x y w : Int32) : RQS 79 [.int x, .int y, .int w] h M := by
  intro Q q
  have R1 := R.w0 (i := 0) (v := 0) (by decide)
  have F0 := OS.w0 (h := h) (v := 0)
  refine en_X9_path (by decide) (go_X9_path_0 (by decide) ?_)
  show tf_Cd 298 10 _ _ (w1 h 270 0 0) _
  generalize w1 h 270 0 0 = h1 at *
  refine sx_rtwo (d := 7) x y _ (go_X9_path_11 (by decide) ⟨fun _ => q _ _ ⟨⟨_, rfl⟩, R1, F0⟩, fun c => go_X9_path_18 (by decide) ?_⟩)
  rw [bI_0, Bool.not_eq_false] at c
  obtain ⟨n, k, G⟩ := R1.1
  obtain ⟨p, o, hp, ho, -, ep, eo⟩ := rf_two_t G.1 c
  subst ep eo
  have hn := G.1.1
  have F := lt_fl (h := h1) (n := n) (k := k)
  have T := G.lt
  have R2 := R1.fl F
  have F2 := F0.tr F.os
  refine sx_lt (d := 7) G.1 _ (go_X9_path_22 (by decide) ?_)
  generalize lt h1 n k = g at *
  obtain ⟨i, j, hi, hj, ei, ej, -⟩ := mt_ok T _ p o (show p ≤ n by omega) (show o ≤ n by omega) (Nat.le_refl _)
  have ti := T.tu i p (by omega) hi
  have tj := T.tu j o (by omega) hj
  have dp := (T.dp (show p ≤ n by omega)).2
  have dd := (T.dp (show o ≤ n by omega)).2
  refine sx_mt (d := 9) T (show p ≤ n by omega) (show o ≤ n by omega) _ (go_X9_path_29 (by decide) ?_)
  generalize mt g (df g p + df g o) p o = z at *
  have r31 : (w1 (w1 g 270 31 (nI z)) 270 30 0).1 270 31 = nI z := (w1_at (by decide)).trans w1_eq
  have r30 : (w1 (w1 g 270 31 (nI z)) 270 30 0).1 270 30 = nI 0 := w1_eq
  have FJ : Fj g (w1 (w1 g 270 31 (nI z)) 270 30 0) := ⟨fun e _ _ h3 => by rw [w1_ne h3, w1_ne h3], rfl, fun i h1 h2 => by rw [w1_at h1, w1_at h2]⟩
  show tf_Cd 298 10 _ [.ref 270, .int (nI p), .int ((w1 (w1 g 270 31 (nI z)) 270 30 0).1 270 31)] (w1 (w1 g 270 31 (nI z)) 270 30 0) _
  generalize w1 (w1 g 270 31 (nI z)) 270 30 0 = g1 at *
  rw [r31]
  have T1 : LT g1 n k := FJ.lt T
  have Y1 : CY g1 0 := ⟨r30, by omega, fun i hi => absurd hi (by omega)⟩
  have q1 : g1.1 281 = g.1 281 := FJ.1 281 (by decide) (by decide) (by decide)
  have q3 : g1.1 283 = g.1 283 := FJ.1 283 (by decide) (by decide) (by decide)
  have s1 := sx_gu (d := 6) T1 (c := 0) (j := i) (y := p) (to := z) Y1 (by omega) (by rw [df_same q3]; exact hi) (by omega) (by rw [tw_same q1]; exact ei.symm)
  obtain ⟨Y2, K2⟩ := gu_ok i 0 p g1 T1 Y1 (by omega) (by rw [df_same q3]; exact hi) (by omega)
  refine s1 _ (go_X9_path_46 (by decide) ?_)
  rw [Nat.zero_add] at Y2
  generalize gu 0 i p g1 = g2 at *
  rw [K2.2.2 31 (by decide), r31]
  have T2 : LT g2 n k := K2.lt T1
  have p1 : g2.1 281 = g.1 281 := (K2.1 281 (by decide) (by decide) (by decide)).trans q1
  have p3 : g2.1 283 = g.1 283 := (K2.1 283 (by decide) (by decide) (by decide)).trans q3
  have s2 := sx_gd (d := 6) T2 (c := i) (i := j) (x := o) (z := z) Y2 (by omega) (by rw [df_same p3]; exact hj) (by omega) (by rw [tw_same p1]; exact ej.symm)
  obtain ⟨Y3, K3⟩ := gd_ok j i o g2 T2 Y2 (by omega) (by rw [df_same p3]; exact hj) (by omega)
  refine s2 _ (go_X9_path_55 (by decide) ?_)
  generalize gd i j o g2 = g3 at *
  have FA : Fj g g3 := ⟨fun e h1 h2 h3 => ((K3.1 e h1 h2 h3).trans (K2.1 e h1 h2 h3)).trans (FJ.1 e h1 h2 h3), (K3.2.1.trans K2.2.1).trans FJ.2.1, fun i h1 h2 => ((K3.2.2 i h1).trans (K2.2.2 i h1)).trans (FJ.2.2 i h1 h2)⟩
  have qq : ∀ x : Int32, Q (.int x) g3 := fun x => q _ _ ⟨⟨x, rfl⟩, R2.fj FA, F2.tr FA.os⟩
  refine ⟨fun _ => qq _, fun _ => go_X9_path_64 (by decide) ⟨fun _ => sx_rlr (d := 7) Y3 _ (go_X9_path_73 (by decide) ⟨fun _ => go_X9_path_89 (by decide) (qq _), fun _ => go_X9_path_87 (by decide) (go_X9_path_89 (by decide) (qq _))⟩), fun _ => go_X9_path_90 (by decide) ⟨fun _ => (pv_cc (d := 8) Y3).c fun y => go_X9_path_99 (by decide) (go_X9_path_134 (by decide) (qq _)), fun _ => go_X9_path_102 (by decide) (sx_in (d := 9) _ _ _ _ (go_X9_path_116 (by decide) ⟨fun _ => go_X9_path_131 (by decide) (go_X9_path_134 (by decide) (qq _)), fun b => ⟨?_, go_X9_path_134 (by decide) (qq _)⟩⟩))⟩⟩⟩
  rw [bI_0, Bool.not_eq_false, Y3.1] at b
  exact in_c Y3.2.1 b
theorem rs_past (R : RI h M) (x y : Int32) : RQS 81 [.int x, .int y] h M := by
  intro Q q
  have R1 := R.w0 (i := 0) (v := 0) (by decide)
  have F0 := OS.w0 (h := h) (v := 0)
  refine en_X9_past (by decide) (go_X9_past_0 (by decide) ?_)
  show tf_Cd 298 10 _ [.int x, .int 0, .int ((w1 h 270 0 0).1 271 7 - 1)] (w1 h 270 0 0) _
  generalize w1 h 270 0 0 = h1 at *
  have qq : ∀ x : Int32, Q (.int x) h1 := fun x => q _ _ ⟨⟨x, rfl⟩, R1, F0⟩
  obtain ⟨n, k, G⟩ := R1.1
  obtain ⟨v, hv, ev⟩ := G.2.2.2.2.2.2
  rw [ev]
  refine sx_in (d := 9) _ _ _ _ (go_X9_past_19 (by decide) ⟨fun _ => go_X9_past_47 (by decide) (go_X9_past_48 (by decide) (qq _)), fun c => sx_in (d := 9) _ _ _ _ (go_X9_past_28 (by decide) ⟨fun _ => go_X9_past_47 (by decide) (go_X9_past_48 (by decide) (qq _)), fun c2 => ⟨?_, go_X9_past_48 (by decide) (qq _)⟩⟩)⟩)
  rw [bI_0, Bool.not_eq_false] at c c2
  have hx : ∃ j, j < 12 ∧ x = nI j := by
    rcases Nat.eq_zero_or_pos v with z | z
    · unfold rf_in at c
      simp only [Bool.and_eq_true, Bool.not_eq_true', decide_eq_false_iff_not] at c
      rw [z] at c
      have h1 := Int32.not_lt.mp c.1
      have h2 := Int32.not_lt.mp c.2
      exact absurd (Int32.le_trans h1 h2) (by decide)
    · have e : nI v - 1 = nI (v - 1) := by
        rw [show v = v - 1 + 1 by omega]
        exact nI_pred _
      rw [e] at c
      obtain ⟨j, -, h2, h3⟩ := rf_in_t (l := 0) (u := v - 1) (by omega) c (by omega)
      exact ⟨j, by omega, h3⟩
  obtain ⟨j, hj, ej⟩ := hx
  obtain ⟨w, -, hw, ew⟩ := rf_in_t (l := 0) (u := 2) (by omega) c2 (by omega)
  have e : (8 : Int32) + 3 * x + y = nI (8 + 3 * j + w) := by
    rw [ej, ew, show (3 : Int32) = nI 3 from rfl, show (8 : Int32) = nI 8 from rfl, nI_mul, nI_add, nI_add]
  rw [e]
  exact vi_of (by omega) (by omega)
theorem rs_next (R : RI h M) (w : Int32) : RQS 80 [.int w] h M := by
  intro Q q
  obtain ⟨n, k, G, G2, R2, F2⟩ := R.lts
  have T := G.lt
  refine en_X9_next (by decide) (go_X9_next_0 (by decide) (sx_lt (h := w1 h 270 0 0) (d := 7) G.1 _ (go_X9_next_9 (by decide) ?_)))
  generalize lt (w1 h 270 0 0) n k = g1 at *
  have hn := G2.1.1
  have H1 := G2.1
  have S1 := G2.2.2.1
  have s2 := sx_en (d := 6) H1 S1
  refine s2 _ (go_X9_next_13 (by decide) ⟨fun _ => q _ _ ⟨⟨_, rfl⟩, R2, F2⟩, fun c => go_X9_next_21 (by decide) ?_⟩)
  obtain ⟨a, ha, ea⟩ := vi_nI ((en_f_in H1 S1 k 0 (-1) (by omega) (Or.inl rfl)).resolve_left c)
  have ho := (en_f_off H1 S1 k 0 (-1) (by omega) (Or.inl rfl)).resolve_left c
  rw [ea, nI_clamp (by omega)] at ho
  rw [ea]
  have hxy : ∃ x y, x < n ∧ y < n ∧ (if rm g1 a 5 = 0 then rm g1 a 0 else rm g1 a 1) = nI x ∧ (if rm g1 a 5 = 0 then rm g1 a 1 else rm g1 a 0) = nI y := by
    obtain ⟨p, q, hp, hq, e1, e2⟩ := H1.ends ha
    by_cases z : rm g1 a 5 = 0
    · exact ⟨p, q, hp, hq, by rw [if_pos z]; exact e1, by rw [if_pos z]; exact e2⟩
    · exact ⟨q, p, hq, hp, by rw [if_neg z]; exact e2, by rw [if_neg z]; exact e1⟩
  obtain ⟨x, y, hx, hy, ex, ey⟩ := hxy
  have s3 := sx_lc (d := 5) T ha hx hy ex ey
  obtain ⟨Y, FJ, -⟩ := lc_ok T ha (show x ≤ n by omega) (show y ≤ n by omega)
  have lst := lc_least T G2.2.2.2.1 ha (show x ≤ n by omega) (show y ≤ n by omega) ho
  have s4 := sx_rlr (d := 7) Y
  obtain ⟨m, hm, em, s5⟩ := sx_lv2 (d := 7) Y lst
  refine s3 _ (go_X9_next_26 (by decide) (s4 _ (go_X9_next_30 (by decide) ?_)))
  have qq : ∀ x_1 : Int32, Q (.int x_1) (lc g1 a x y) := fun v => q _ _ ⟨⟨v, rfl⟩, R2.fj FJ, F2.tr FJ.os⟩
  generalize rlr (lc g1 a x y) (lc_n g1 x y) 0 1000000 = dl at *
  generalize lc g1 a x y = g3 at *
  refine ⟨fun _ => go_X9_next_88 (by decide) (sx_in (d := 9) _ _ _ _ (go_X9_next_102 (by decide) ⟨fun _ => go_X9_next_117 (by decide) (go_X9_next_118 (by decide) (qq _)), fun b => ⟨?_, go_X9_next_118 (by decide) (qq _)⟩⟩)), fun _ => go_X9_next_68 (by decide) (qq _), fun _ => go_X9_next_70 (by decide) (s5 _ (go_X9_next_75 (by decide) (qq _))), fun _ => go_X9_next_76 (by decide) (qq _), fun _ => go_X9_next_78 (by decide) (qq _), fun _ => go_X9_next_83 (by decide) (qq _), trivial⟩
  rw [bI_0, Bool.not_eq_false, Y.1] at b
  exact in_c Y.2.1 b
theorem RI.ps (R : RI h M) : ∃ n k, GI (w1 h 270 0 0) n k M ∧ RI (w1 h 270 0 0) M ∧ OS h (w1 h 270 0 0) := by
  have R1 := R.w0 (i := 0) (v := 0) (by decide)
  obtain ⟨n, k, G⟩ := R1.1
  exact ⟨n, k, G, R1, OS.w0⟩
theorem rs_bill (R : RI h M) (x : Int32) : RQS 83 [.int x] h M := by
  intro Q q
  obtain ⟨n, k, G, R1, F⟩ := R.ps
  refine en_X9_bill (by decide) (go_X9_bill_0 (by decide) ?_)
  show tf_Cd 298 10 _ _ (w1 h 270 0 0) _
  generalize w1 h 270 0 0 = h1 at *
  have qq : ∀ x : Int32, Q (.int x) h1 := fun x => q _ _ ⟨⟨x, rfl⟩, R1, F⟩
  exact (pv_bi (d := 8) G.1).c fun y => go_X9_bill_9 (by decide) ⟨fun _ => go_X9_bill_30 (by decide) (qq _), fun _ => go_X9_bill_27 (by decide) (go_X9_bill_30 (by decide) (qq _))⟩
theorem rs_ledger (R : RI h M) (x y : Int32) : RQS 85 [.int x, .int y] h M := by
  intro Q q
  obtain ⟨n, k, G, R1, F⟩ := R.ps
  refine en_X9_ledger (by decide) (go_X9_ledger_0 (by decide) ?_)
  show lx_X9_ledger 298 (tf_Cd 298 10) Q 11 [.ref 270, .int x, .int y, .int 0, .int (nI 0 - 99)] [] (w1 h 270 0 0)
  generalize w1 h 270 0 0 = h1 at *
  exact pv_leL (d := 8) G.1 (fun x => q _ _ ⟨⟨x, rfl⟩, R1, F⟩) 199 0 0 (by omega)
theorem rs_apart (R : RI h M) (x : Int32) : RQS 93 [.int x] h M := by
  intro Q q
  obtain ⟨n, k, G, R1, F⟩ := R.ps
  refine en_X9_apart (by decide) (go_X9_apart_0 (by decide) ?_)
  show tf_Cd 298 10 _ _ (w1 h 270 0 0) _
  generalize w1 h 270 0 0 = h1 at *
  have qq : ∀ x : Int32, Q (.int x) h1 := fun x => q _ _ ⟨⟨x, rfl⟩, R1, F⟩
  refine sx_in (d := 9) _ _ _ _ (go_X9_apart_11 (by decide) ⟨fun _ => go_X9_apart_23 (by decide) (qq _), fun c => ?_⟩)
  rw [bI_0, Bool.not_eq_false] at c
  obtain ⟨j, -, hj, ej⟩ := rf_in_t (l := 0) (u := 2) (by omega) c (by omega)
  subst ej
  exact ⟨vi_of (by omega) (by omega), fun _ => go_X9_apart_23 (by decide) (qq _), fun _ => go_X9_apart_25 (by decide) (pv_apL (d := 9) (by omega) qq 14 0 _ (by omega))⟩
theorem rs_cut (R : RI h M) : RQS 109 [] h M := by
  intro Q q
  obtain ⟨n, k, G, R1, F⟩ := R.ps
  have hp := nt_pw G.1.1.2.1
  refine en_X9_cut (by decide) (go_X9_cut_0 (by decide) ?_)
  show lx_X9_cut 298 (tf_Cd 298 10) Q 9 [.ref 270, .int 0, .int (nI 1), tf_z] [] (w1 h 270 0 0)
  generalize w1 h 270 0 0 = h1 at *
  exact pv_cuL (d := 8) G.1 (fun x => q _ _ ⟨⟨x, rfl⟩, R1, F⟩) (2 ^ n - 1) 1 _ _ (by omega)
theorem rs_lack (R : RI h M) : RQS 110 [] h M := by
  intro Q q
  obtain ⟨n, k, G, R1, F⟩ := R.ps
  have hp := nt_pw G.1.1.2.1
  refine en_X9_lack (by decide) (go_X9_lack_0 (by decide) ?_)
  show lx_X9_lack 298 (tf_Cd 298 10) Q 9 [.ref 270, .int 0, .int (nI 1)] [] (w1 h 270 0 0)
  generalize w1 h 270 0 0 = h1 at *
  exact pv_laL (d := 8) G.1 (fun x => q _ _ ⟨⟨x, rfl⟩, R1, F⟩) (2 ^ n - 1) 1 _ (by omega)
theorem rs_wide (R : RI h M) (x y : Int32) : RQS 86 [.int x, .int y] h M := by
  intro Q q
  obtain ⟨n, k, G, R1, F⟩ := R.ps
  refine en_X9_wide (by decide) (go_X9_wide_0 (by decide) ?_)
  show tf_Cd 298 10 _ _ (w1 h 270 0 0) _
  generalize w1 h 270 0 0 = h1 at *
  refine sx_rtwo (d := 7) x y _ (go_X9_wide_11 (by decide) ⟨fun _ => q _ _ ⟨⟨_, rfl⟩, R1, F⟩, fun c => go_X9_wide_16 (by decide) ?_⟩)
  rw [bI_0, Bool.not_eq_false] at c
  obtain ⟨p, o, hp, ho, -, ep, eo⟩ := rf_two_t G.1 c
  have hn := G.1.1
  have v : vp_in (8 * x + y) 64 := by
    rw [ep, eo, show (8 : Int32) = nI 8 from rfl, nI_mul, nI_add]
    exact vi_of (by omega) (by omega)
  exact wd_z (h := h1) (fun x3 g F2 => go_X9_wide_37 (by decide) (wd_a (d := 9) G.1 (fun x3 x4 x5 g F3 => go_X9_wide_174 (by decide) (wd_m (d := 9) G.1 v (fun x g F4 => q _ _ ⟨⟨x, rfl⟩, R1.sc F4, F.tr F4.os⟩) n 0 g _ _ (by omega) F3)) k 0 g _ _ (by omega) F2)) 64 0 h1 (by omega) ScF.rf
theorem rs_thread (R : RI h M) (x : Int32) : RQS 77 [.int x] h M := by
  intro Q q
  obtain ⟨n, k, G, R1, F⟩ := R.ps
  refine en_X9_thread (by decide) (go_X9_thread_0 (by decide) ?_)
  show tf_Cd 298 10 _ [.int x, .int 0, .int ((w1 h 270 0 0).1 271 0 - 1)] (w1 h 270 0 0) _
  generalize w1 h 270 0 0 = h1 at *
  have hn := G.1.1
  have e0 : h1.1 271 0 - 1 = nI (n - 1) := by
    rw [G.1.2.1, show n = n - 1 + 1 by omega]
    exact nI_pred _
  rw [e0]
  refine sx_in (d := 9) _ _ _ _ (go_X9_thread_18 (by decide) ⟨fun _ => q _ _ ⟨⟨_, rfl⟩, R1, F⟩, fun c => go_X9_thread_23 (by decide) ?_⟩)
  rw [bI_0, Bool.not_eq_false] at c
  obtain ⟨kk, -, hkk, ek⟩ := rf_in_t (l := 0) (u := n - 1) (by omega) c (by omega)
  subst ek
  have FL := lt_fl (h := h1) (n := n) (k := k)
  have T := G.lt
  have R2 := R1.fl FL
  have F2 := F.tr FL.os
  refine sx_lt (d := 7) G.1 _ (go_X9_thread_27 (by decide) ?_)
  generalize lt h1 n k = g at *
  refine sx_root (d := 9) _ (go_X9_thread_32 (by decide) (sx_rch (d := 9) T.1 _ 0 rfl (by omega) _ (go_X9_thread_36 (by decide) ?_)))
  rw [T.1.2.1]
  have top : ∀ o, o < n → ∃ c, c < n ∧ df g o - 1 < df g o ∧ tw g (df g o - 1) o = c ∧ uf g c = n := by
    intro o ho
    have dpos := (T.at ho).2.2.1
    have t1 := T.tu (df g o - 1) o (by omega) (by omega)
    have hl : tw g (df g o - 1) o < n := T.lt t1.1 (by omega)
    refine ⟨_, hl, by omega, rfl, ?_⟩
    have t2 := T.tu (df g o) o (by omega) (Nat.le_refl _)
    rw [← tw_succ, show df g o - 1 + 1 = df g o by omega]
    rcases Nat.lt_or_ge (tw g (df g o) o) n with y | y
    · have := (T.at y).2.2.1
      omega
    · omega
  rcases chf_or (g := g) (nI n) (n - 0) 0 with ⟨e1, e2⟩ | ⟨c, h1', h2, h3, h4, h5⟩
  · exfalso
    obtain ⟨c, hc, -, -, hu⟩ := top 0 (by omega)
    exact e2 c (by omega) (by omega) ((uf_of T hc (Nat.le_refl _)).mpr hu)
  · have hcn : c < n := by omega
    have uc := (uf_of T hcn (Nat.le_refl _)).mp h4
    rw [h3]
    refine th_L (d := 9) T (kk := kk) (by omega) (fun x => q _ _ ⟨⟨x, rfl⟩, R2, F2⟩) kk 0 c (cadd (fun _ => false) c) _ (by omega) hcn (fun o ho => ?_) ?_
    · obtain ⟨c2, hc2, hd, et, hu⟩ := top o ho
      have hle : c ≤ c2 := by
        rcases Nat.lt_or_ge c2 c with y | y
        · exact absurd ((uf_of T hc2 (Nat.le_refl _)).mpr hu) (h5 c2 (by omega) y)
        · exact y
      have dc := (T.at hcn).2.2.1
      rcases Nat.lt_or_ge c c2 with y | y
      · refine Or.inr ⟨1, df g o - 1, by omega, hd, ?_, Or.inr ?_⟩
        · rw [et, hu, ← uc]
          rfl
        · rw [et]
          exact y
      · have e : c2 = c := by omega
        rcases Nat.eq_zero_or_pos (df g o - 1) with w | w
        · rw [w] at et
          have : o = c := et.trans e
          exact Or.inl (by simp [cadd, this])
        · refine Or.inr ⟨0, df g o - 2, by omega, by omega, ?_, Or.inl rfl⟩
          rw [← tw_succ, show df g o - 2 + 1 = df g o - 1 by omega, et, e]
          rfl
    · have := (cv_add (V := fun _ => false) (p := c) n).1
      have z : cv (fun _ => false) n = 0 := by
        have : ∀ m, cv (fun _ => false) m = 0 := by
          intro m
          induction m with
          | zero => rfl
          | succ m ih =>
            unfold cv
            rw [ih]
            rfl
        exact this n
      omega
theorem rs_trip (R : RI h M) (x y : Int32) : RQS 91 [.int x, .int y] h M := by
  intro Q q
  obtain ⟨n, k, G, R1, F⟩ := R.ps
  refine en_X9_trip (by decide) (go_X9_trip_0 (by decide) ?_)
  show lx_X9_trip 298 (tf_Cd 298 10) Q 7 [.ref 270, .int x, .int y, .int (nI 0), tf_z] [] (w1 h 270 0 0)
  generalize w1 h 270 0 0 = h1 at *
  have qq : ∀ (x : Int32) (g : LH), ScF h1 g → Q (.int x) g := fun x g F2 => q _ _ ⟨⟨x, rfl⟩, R1.sc F2, F.tr F2.os⟩
  refine rt_c (d := 9) G (fun x3 g F2 L => go_X9_trip_35 (by decide) (sp_gt (d := 6) (G.1.sc F2) L _ (fun v g2 p => ?_))) k 0 h1 (by omega) ScF.rf (fun b hb => absurd hb (by omega))
  obtain ⟨F3, L3, o⟩ := p
  have hx : ∃ x4 : Int32, v = .int x4 ∧ (x4 ≠ 0 → ∃ t, t ≤ 7 ∧ g2.1 270 36 = nI t) := by
    rcases o with ⟨ev, -⟩ | ⟨ev, -, ht⟩
    · exact ⟨0, ev, fun z => absurd rfl z⟩
    · exact ⟨1, ev, fun _ => ht⟩
  obtain ⟨x4, ev, ht⟩ := hx
  subst ev
  exact go_X9_trip_41 (by decide) (rt_l (d := 6) G.1 qq (sq g2 k + 1) _ _ g2 (by omega) (F2.tr F3) L3 ht)
theorem rs_least (R : RI h M) : RQS 103 [] h M := by
  intro Q q
  obtain ⟨n, k, G, R1, F⟩ := R.ps
  refine en_X9_least (by decide) (go_X9_least_0 (by decide) ?_)
  show tf_Cd 298 10 _ _ (w1 h 270 0 0) _
  generalize w1 h 270 0 0 = h1 at *
  refine sp_an (d := 8) G _ (fun v g p => go_X9_least_9 (by decide) (sp_cco (d := 5) p.2.mono _ (fun v2 g2 p2 => ?_)))
  obtain ⟨⟨x, e⟩, F2⟩ := p2
  subst e
  have F3 := p.1.tr F2
  exact go_X9_least_13 (by decide) (q _ _ ⟨⟨_, rfl⟩, R1.sc F3, F.tr F3.os⟩)
theorem rs_worth (R : RI h M) (x y : Int32) : RQS 105 [.int x, .int y] h M := by
  intro Q q
  obtain ⟨n, k, G, R1, F⟩ := R.ps
  refine en_X9_worth (by decide) (go_X9_worth_0 (by decide) ?_)
  show tf_Cd 298 10 _ _ (w1 h 270 0 0) _
  generalize w1 h 270 0 0 = h1 at *
  have e22 : lx_X9_worth 298 (tf_Cd 298 10) Q 22 [.ref 270, .int x, .int y, tf_z] [] h1 := go_X9_worth_22 (by decide) (q _ _ ⟨⟨_, rfl⟩, R1, F⟩)
  refine sx_risArc (d := 8) x _ (go_X9_worth_10 (by decide) ⟨fun _ => e22, fun c => sx_in (d := 9) _ _ _ _ (go_X9_worth_19 (by decide) ⟨fun _ => e22, fun _ => go_X9_worth_26 (by decide) (sp_an (d := 8) G _ (fun v g p => go_X9_worth_30 (by decide) (sp_cco (d := 5) p.2.mono _ (fun v2 g2 p2 => ?_))))⟩)⟩)
  rw [bI_0, Bool.not_eq_false] at c
  obtain ⟨a, ha, ea⟩ := rf_arc_t G.1 c
  subst ea
  have hn := G.1.1
  have v14 : vp_in (nI a) 14 := vi_of (by omega) (by omega)
  have ca : (nI a).toNatClampNeg = a := nI_clamp (by omega)
  obtain ⟨⟨x2, e⟩, F2⟩ := p2
  subst e
  have F3 := p.1.tr F2
  refine go_X9_worth_34 (by decide) (sp_an (d := 8) (G.sc F3) _ (fun v3 g3 p3 => go_X9_worth_39 (by decide) ?_))
  have F4 := F3.tr p3.1
  have D3 := p3.2
  have e92 : ∀ g4, ScF h1 g4 → DN g4 n k 100 → lx_X9_worth 298 (tf_Cd 298 10) Q 92 [.ref 270, .int (nI a), .int y, .int x2] [] g4 := fun g4 S4 D4 => go_X9_worth_92 (by decide) (sp_cco (d := 5) D4 _ (fun v5 g5 p5 => by
    obtain ⟨⟨x5, e5⟩, F5⟩ := p5
    subst e5
    have F6 := S4.tr F5
    exact go_X9_worth_97 (by decide) ((pv_lt (d := 9) _ _).c fun y6 => go_X9_worth_101 (by decide) (q _ _ ⟨⟨_, rfl⟩, R1.sc F6, F.tr F6.os⟩))))
  have k1 := D3.2.1 a ha
  have k2 := D3.2.2.1 a ha
  rw [ca]
  refine ⟨fun _ => ⟨v14, v14, ?_⟩, fun _ => go_X9_worth_57 (by decide) ⟨fun _ => ⟨v14, ?_⟩, fun _ => go_X9_worth_72 (by decide) (sx_of (d := 9) a 6 rfl rfl (by omega) (by omega) _ (go_X9_worth_79 (by decide) ⟨fun _ => ⟨v14, v14, ?_⟩, fun _ => e92 g3 F4 D3.mono⟩))⟩⟩
  · exact e92 (w1 g3 292 a (g3.1 292 a + 1)) (F4.w (by omega)) (D3.w (Or.inr ⟨Or.inl rfl, by rw [tia (by rw [one_ti]; omega) (by rw [one_ti]; omega), one_ti]; omega⟩))
  · rw [ca]
    exact e92 (w1 g3 291 a 0) (F4.w (by omega)) (D3.w (Or.inl ⟨rfl, by rw [z_ti]; omega⟩))
  · rw [ca]
    exact e92 (w1 g3 291 a (g3.1 291 a + 1)) (F4.w (by omega)) (D3.w (Or.inl ⟨rfl, by rw [tia (by rw [one_ti]; omega) (by rw [one_ti]; omega), one_ti]; omega⟩))
theorem rs_toll (R : RI h M) (x y : Int32) : RQS 106 [.int x, .int y] h M := by
  intro Q q
  obtain ⟨n, k, G, R1, F⟩ := R.ps
  refine en_X9_toll (by decide) (go_X9_toll_0 (by decide) ?_)
  show tf_Cd 298 10 _ _ (w1 h 270 0 0) _
  generalize w1 h 270 0 0 = h1 at *
  refine sx_rtwo (d := 7) x y _ (go_X9_toll_11 (by decide) ⟨fun _ => q _ _ ⟨⟨_, rfl⟩, R1, F⟩, fun c => go_X9_toll_18 (by decide) (sp_an (d := 8) G _ (fun v g p => go_X9_toll_22 (by decide) (sp_cco (d := 5) p.2.mono _ (fun v2 g2 p2 => ?_))))⟩)
  rw [bI_0, Bool.not_eq_false] at c
  obtain ⟨a, o, ha, ho, hne, ea, eo⟩ := rf_two_t G.1 c
  subst ea eo
  have hn := G.1.1
  have va : vp_in (nI a) 7 := vi_of (by omega) (by omega)
  have vo : vp_in (nI o) 7 := vi_of (by omega) (by omega)
  have ca : (nI a).toNatClampNeg = a := nI_clamp (by omega)
  have co : (nI o).toNatClampNeg = o := nI_clamp (by omega)
  obtain ⟨⟨x2, e⟩, F2⟩ := p2
  subst e
  have F3 := p.1.tr F2
  refine go_X9_toll_26 (by decide) (sp_an (d := 8) (G.sc F3) _ (fun v3 g3 p3 => go_X9_toll_31 (by decide) ?_))
  have F4 := F3.tr p3.1
  have D3 := p3.2
  rw [ca, co]
  refine ⟨va, va, vo, vo, ?_⟩
  show tf_Cd 298 10 _ _ (w1 (w1 g3 294 a (g3.1 294 a + 1)) 294 o ((w1 g3 294 a (g3.1 294 a + 1)).1 294 o - 1)) _
  have k1 := D3.2.2.2 a ha
  have k2 := D3.2.2.2 o ho
  have r2 : (w1 g3 294 a (g3.1 294 a + 1)).1 294 o = g3.1 294 o := w1_at (fun z => hne z.symm)
  rw [r2]
  have D5 : DN (w1 (w1 g3 294 a (g3.1 294 a + 1)) 294 o (g3.1 294 o - 1)) n k 100 := by
    have t1 : (g3.1 294 a + 1).toInt = (g3.1 294 a).toInt + 1 := by rw [tia (by rw [one_ti]; omega) (by rw [one_ti]; omega), one_ti]
    have t2 : (g3.1 294 o - 1).toInt = (g3.1 294 o).toInt - 1 := by rw [tis (by rw [one_ti]; omega) (by rw [one_ti]; omega), one_ti]
    refine ⟨D3.1.fl (by rw [w1_ne (by decide), w1_ne (by decide)]), fun b hb => ?_, fun b hb => ?_, fun b hb => ?_⟩
    · rw [w1_ne (by decide), w1_ne (by decide)]
      have := D3.2.1 b hb
      omega
    · rw [w1_ne (by decide), w1_ne (by decide)]
      have := D3.2.2.1 b hb
      omega
    · by_cases e1 : b = o
      · rw [e1, w1_eq, t2]
        omega
      · rw [w1_at e1]
        by_cases e2 : b = a
        · rw [e2, w1_eq, t1]
          omega
        · rw [w1_at e2]
          have := D3.2.2.2 b hb
          omega
  have S5 : ScF h1 (w1 (w1 g3 294 a (g3.1 294 a + 1)) 294 o (g3.1 294 o - 1)) := (F4.w (by omega)).w (by omega)
  refine sp_cco (d := 5) D5 _ (fun v5 g5 p5 => ?_)
  obtain ⟨⟨x5, e5⟩, F5⟩ := p5
  subst e5
  have F6 := S5.tr F5
  exact go_X9_toll_56 (by decide) ((pv_lt (d := 9) _ _).c fun y6 => go_X9_toll_60 (by decide) (q _ _ ⟨⟨_, rfl⟩, R1.sc F6, F.tr F6.os⟩))
theorem rs_fault (R : RI h M) (x : Int32) : RQS 25 [.int x] h M := by
  intro Q q
  have R1 := R.w0 (i := 0) (v := 0) (by decide)
  have F0 := OS.w0 (h := h) (v := 0)
  exact en_X9_fault (by decide) (go_X9_fault_0 (by decide) ⟨fun _ => go_X9_fault_20 (by decide) (go_X9_fault_28 (by decide) (q _ _ ⟨⟨_, rfl⟩, R1, F0⟩)), fun _ => go_X9_fault_28 (by decide) (q _ _ ⟨⟨_, rfl⟩, R1, F0⟩)⟩)
theorem rs_steps (R : RI h M) (hM : M ≤ 18000000) (x : Int32) : RQS 111 [.int x] h M := by
  intro Q q
  have R1 := R.w0 (i := 0) (v := 0) (by decide)
  have F0 := OS.w0 (h := h) (v := 0)
  refine en_X9_steps (by decide) (go_X9_steps_0 (by decide) ?_)
  show tf_Cd 298 10 _ _ (w1 h 270 0 0) _
  generalize w1 h 270 0 0 = h1 at *
  refine sx_in (d := 9) _ _ _ _ (go_X9_steps_11 (by decide) ⟨fun c => q _ _ ⟨⟨_, rfl⟩, R1, F0⟩, fun c => go_X9_steps_16 (by decide) ?_⟩)
  obtain ⟨n, k, G⟩ := R1.1
  refine sp_cp (d := 9) (a := 0) (b := 4) (by omega) (by omega) (by omega) _ (fun v g p => go_X9_steps_22 (by decide) ?_)
  obtain ⟨p1, p2, p3, p4⟩ := p
  have Gg : GI g n k M := G.cong (fun i hi => p4 i (by omega))
  refine sp_pt (d := 3) (N := 10000) (M := M) (by omega) (by omega) (Gg.ru (v := x)) _ (fun v4 g4 q4 => ?_)
  obtain ⟨x4, e, G4, F4⟩ := q4
  subst e
  refine go_X9_steps_36 (by decide) (sp_cp (d := 9) (a := 4) (b := 0) (by omega) (by omega) (by omega) _ (fun v5 g5 p5 => go_X9_steps_43 (by decide) (q _ _ ?_)))
  obtain ⟨t1, t2, t3, t4⟩ := p5
  have w2 : ∀ ix, ix ≠ 2 → (w1 g 271 2 x).1 271 ix = g.1 271 ix := fun ix hx => w1_at hx
  have wn : ∀ e, e ≠ 271 → (w1 g 271 2 x).1 e = g.1 e := fun e he => w1_ne he
  have F4' : PF (w1 g 271 2 x) g4 := F4
  generalize w1 g 271 2 x = gw at *
  have low : ∀ y, y < 173 → g5.1 271 y = h1.1 271 y := fun y hy => by
    have a := t3 y hy
    rw [Nat.mul_zero, Nat.zero_add] at a
    rw [a, F4'.2.2.2 _ (Or.inr (Or.inr (Or.inr (Or.inl (by omega))))), w2 _ (by omega), p3 y hy, Nat.mul_zero, Nat.zero_add]
  have mid : ∀ y, 173 ≤ y → y < 692 → g5.1 271 y = h1.1 271 y := fun y h1 h2 => by
    rw [t4 y (by omega), F4'.2.2.2 _ (Or.inr (Or.inr (Or.inr (Or.inl (by omega))))), w2 _ (by omega), p4 y (by omega)]
  have cells : ∀ e, e ≠ 271 → ¬ (281 ≤ e ∧ e ≤ 286) → e ≠ 270 → g5.1 e = h1.1 e := fun e h1 h2 h3 => by rw [t1 e h1, F4'.1 e h1 h2 h3, wn e h1, p1 e h1]
  have F5 : OF h1 g5 := ⟨fun e he => cells e (by omega) (by omega) (by omega), fun ix h1 h2 => by
    rcases Nat.lt_or_ge ix 173 with z | z
    · exact low ix z
    · exact mid ix z h2, cells 272 (by decide) (by decide) (by decide), cells 273 (by decide) (by decide) (by decide), cells 275 (by decide) (by decide) (by decide)⟩
  have e5 : g5.1 270 5 = h1.1 270 5 := by rw [t1 270 (by decide), F4'.2.2.1 5 (by decide) (by decide), wn 270 (by decide), p1 270 (by decide)]
  exact ⟨⟨_, rfl⟩, R1.of (Nat.le_refl _) F5 ⟨n, k, G.cong (fun i hi => low i (by omega))⟩ (R1.2.1.same e5 (cells 274 (by decide) (by decide) (by decide))), F0.tr ⟨F5, fun i hi => low i (by omega), cells 274 (by decide) (by decide) (by decide), e5⟩⟩
def OX (a : Nat) (h g : LH) : Prop := OF h g ∧ (∀ i, i < 170 → i ≠ 72 + 7 * a + 3 → g.1 271 i = h.1 271 i) ∧ g.1 274 = h.1 274 ∧ g.1 270 5 = h.1 270 5
theorem OS.ox {a : Nat} (F : OS h g) : OX a h g := ⟨F.1, fun i hi _ => F.2.1 i hi, F.2.2⟩
theorem OX.tr {a : Nat} {f : LH} (x : OX a h g) (y : OX a g f) : OX a h f := ⟨x.1.tr y.1, fun i hi hj => (y.2.1 i hi hj).trans (x.2.1 i hi hj), y.2.2.1.trans x.2.2.1, y.2.2.2.trans x.2.2.2⟩
theorem OX.wp {a : Nat} {v : Int32} (ha : a < 14) : OX a h (rp h a 3 v) := ⟨OF.wr (by omega), fun i _ hi => rp_ne hi, w1_ne (by decide), by
  have : (rp h a 3 v).1 270 = h.1 270 := w1_ne (by decide)
  rw [this]⟩
theorem OX.fin {a : Nat} {v : Int32} (ha : a < 14) (F : OX a h g) (e : h.1 271 (72 + 7 * a + 3) = v) : OS h (rp g a 3 v) := by
  obtain ⟨f1, f2, f3, f4⟩ := F.tr (OX.wp (v := v) ha)
  refine ⟨f1, fun i hi => ?_, f3, f4⟩
  by_cases z : i = 72 + 7 * a + 3
  · rw [z, rp_at, e]
  · exact f2 i hi z
theorem rs_spL {a : Nat} {x2 was : Int32} (ha : a < k) (hk : k ≤ 14) (hwas : h.1 271 (72 + 7 * a + 3) = was) {cw : Nat} (hcw : cw ≤ 198) (ew : was + 99 = nI cw) {Q : tf_Q} (q : ∀ (x : Int32) (g : LH), RI g M → OS h g → Q (.int x) g) : ∀ (f j : Nat) (g : LH) (x4 : Int32) (x6 : Value), j + f = 199 → GI g n k M → RI g M → OX a h g → lx_X9_span 298 (tf_Cd 298 (d + 5)) Q 40 [.ref 270, .int (nI a), .int x2, .int was, .int x4, .int (nI j - 99), x6] [] g
  | 0, j, g, x4, x6, hj, G, R, F => by
    have e : j = 199 := by omega
    subst e
    exact go_X9_span_40 (by decide) ⟨fun _ => go_X9_span_91 (by decide) (sx_puts (d := d + 4) a 3 _ rfl rfl (by omega) (by omega) _ (go_X9_span_98 (by decide) (q _ _ (R.cost G (by omega) hcw ew) (F.fin (by omega) hwas)))), fun z => absurd (by decide) z⟩
  | f + 1, j, g, x4, x6, hj, G, R, F => by
    have e59 : ∀ (y : Int32) (c : Nat), c ≤ 198 → y + 99 = nI c → lx_X9_span 298 (tf_Cd 298 (d + 5)) Q 59 [.ref 270, .int (nI a), .int x2, .int was, .int x4, .int (nI j - 99), x6] [.int y] g := by
      intro y c hc ey
      refine go_X9_span_59 (by decide) (sx_puts (d := d + 4) a 3 _ rfl rfl (by omega) (by omega) _ (go_X9_span_69 (by decide) ?_))
      have G1 := G.cost (a := a) hc ey
      have R1 := R.cost (a := a) G (by omega) hc ey
      have F1 : OX a h (rp g a 3 y) := F.tr (OX.wp (by omega))
      generalize rp g a 3 y = g1 at *
      have FL := lt_fl (h := g1) (n := n) (k := k)
      have e83 : ∀ y2 : Int32, lx_X9_span 298 (tf_Cd 298 (d + 5)) Q 83 [.ref 270, .int (nI a), .int x2, .int was, .int x4, .int (nI j - 99), .int y] [.int y2] (lt g1 n k) := fun y2 => go_X9_span_83 (by decide) (by rw [m99]; exact rs_spL ha hk hwas hcw ew q f (j + 1) _ _ _ (by omega) (G1.fl FL) (R1.fl FL) (F1.tr FL.os.ox))
      exact sx_best (d := d) G1 _ (go_X9_span_73 (by decide) ⟨fun _ => go_X9_span_81 (by decide) (e83 _), fun _ => e83 _⟩)
    exact go_X9_span_40 (by decide) ⟨fun z => absurd z (m99_lt (by omega)), fun _ => ⟨fun _ => go_X9_span_56 (by decide) (e59 _ _ (by omega) (c99n (by omega))), fun _ => e59 _ _ (show j ≤ 198 by omega) c99⟩⟩
theorem rs_span (R : RI h M) (x y : Int32) : RQS 94 [.int x, .int y] h M := by
  intro Q q
  obtain ⟨n, k, G, R1, F⟩ := R.ps
  refine en_X9_span (by decide) (go_X9_span_0 (by decide) ?_)
  show tf_Cd 298 10 _ _ (w1 h 270 0 0) _
  generalize w1 h 270 0 0 = h1 at *
  refine sx_risArc (d := 8) x _ (go_X9_span_10 (by decide) ⟨fun _ => go_X9_span_20 (by decide) (q _ _ ⟨⟨_, rfl⟩, R1, F⟩), fun c => ?_⟩)
  rw [bI_0, Bool.not_eq_false] at c
  obtain ⟨a, ha, ea⟩ := rf_arc_t G.1 c
  subst ea
  have hn := G.1.1
  have FL := lt_fl (h := h1) (n := n) (k := k)
  refine sx_best (d := 5) G _ (go_X9_span_17 (by decide) ⟨fun _ => go_X9_span_20 (by decide) (q _ _ ⟨⟨_, rfl⟩, R1.fl FL, F.tr FL.os⟩), fun _ => go_X9_span_24 (by decide) ?_⟩)
  have G2 := G.fl FL
  have R2 := R1.fl FL
  have F2 := F.tr FL.os
  generalize lt h1 n k = g at *
  obtain ⟨cw, hcw, ew⟩ := G2.2.2.2.2.1.2.2.1 a ha
  exact sx_of (d := 9) a 3 rfl rfl (by omega) (by omega) _ (go_X9_span_30 (by decide) (rs_spL (d := 5) (h := h) ha hn.2.2 (F2.2.1 _ (by omega)).symm hcw ew (fun x g r f => q _ _ ⟨⟨x, rfl⟩, r, f⟩) 199 0 g _ _ (by omega) G2 R2 F2.ox))
end RUA
