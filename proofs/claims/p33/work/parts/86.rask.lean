/-! ===== questions of the reference return ===== -/
section R86
variable {h g : LH} {n k M d : Nat}
/-- a question: it gives a number and leaves all -/
def PV (d kn : Nat) (As : List Value) (h : LH) : Prop := tf_Sp d kn As h (fun v g => (∃ x, v = .int x) ∧ g = h)
theorem PV.c {kn : Nat} {As : List Value} {Q : tf_Q} (p : PV d kn As h) (q : ∀ x : Int32, Q (.int x) h) : tf_Cd 298 d kn As h Q := p Q (fun v g r => by
  obtain ⟨⟨x, e⟩, e2⟩ := r
  subst e
  subst e2
  exact q x)
theorem pv_i {kn : Nat} {As : List Value} (p : ∀ Q : tf_Q, (∀ x : Int32, Q (.int x) h) → tf_Cd 298 d kn As h Q) : PV d kn As h := fun Q q => p Q (fun x => q _ _ ⟨⟨x, rfl⟩, rfl⟩)
theorem RM.n1 (H : RM h n k) {p : Nat} (hp : p < n) : ¬ h.1 271 0 ≤ nI p := by
  have := H.1
  rw [H.2.1]
  exact nI_ge hp (by omega)
theorem RM.n2 (H : RM h n k) {p : Nat} (hp : n ≤ p) (h2 : p < 1000) : h.1 271 0 ≤ nI p := by
  rw [H.2.1]
  exact nI_le hp (by omega)
theorem RM.k1 (H : RM h n k) {p : Nat} (hp : p < k) : ¬ h.1 271 1 ≤ nI p := by
  have := H.1
  rw [H.2.2.1]
  exact nI_ge hp (by omega)
theorem RM.k2 (H : RM h n k) {p : Nat} (hp : k ≤ p) (h2 : p < 1000) : h.1 271 1 ≤ nI p := by
  rw [H.2.2.1]
  exact nI_le hp (by omega)
theorem ti_n {x : Int32} {m : Nat} (hm : m < 2 ^ 31) (e : x.toInt = (m : Int)) : x = nI m := Int32.toInt_inj.mp (by rw [nI_toInt hm]; exact e)
theorem pv_unL (H : RM h n k) {Q : tf_Q} (q : ∀ x : Int32, Q (.int x) h) : ∀ (f p : Nat) (s : Int32), p + f = n → lx_X9_unmet 298 (tf_Cd 298 d) Q 4 [.ref 270, .int s, .int (nI p)] [] h
  | 0, p, s, hp => by
    have hn := H.1
    exact go_X9_unmet_4 (by decide) ⟨fun _ => go_X9_unmet_32 (by decide) (q _), fun z => absurd (H.n2 (by omega) (by omega)) z⟩
  | f + 1, p, s, hp => by
    have hn := H.1
    have i65' : (65 : Int32) + nI p = nI (65 + p) := nI_add 65 p
    refine go_X9_unmet_4 (by decide) ⟨fun z => absurd z (H.n1 (by omega)), fun _ => ?_⟩
    rw [i65', nI_1]
    exact ⟨vi_of (by omega) (by omega), pv_unL H q f (p + 1) _ (by omega)⟩
theorem pv_un (H : RM h n k) : PV (d + 1) 71 [.ref 270] h := pv_i fun Q q => en_X9_unmet (by decide) (go_X9_unmet_0 (by decide) (pv_unL H q n 0 _ (by omega)))
theorem RI.lt0 (R : RI h M) : ∃ n k, GI (w1 h 270 0 0) n k M ∧ GI (lt (w1 h 270 0 0) n k) n k M ∧ RI (lt (w1 h 270 0 0) n k) M ∧ OF h (lt (w1 h 270 0 0) n k) := by
  have R1 := R.w0 (i := 0) (v := 0) (by decide)
  obtain ⟨n, k, G⟩ := R1.1
  have F := lt_fl (h := w1 h 270 0 0) (n := n) (k := k)
  exact ⟨n, k, G, G.fl F, R1.fl F, OF.w0.tr F.of⟩
theorem rq_grid (R : RI h M) (x : Int32) : RQ 72 [.int x] h M := by
  intro Q q
  obtain ⟨n, k, G, G2, R2, F2⟩ := R.lt0
  refine en_X9_grid (by decide) (go_X9_grid_0 (by decide) (sx_lt (h := w1 h 270 0 0) (d := 7) G.1 _ (go_X9_grid_9 (by decide) ?_)))
  have q2 : ∀ x : Int32, Q (.int x) (lt (w1 h 270 0 0) n k) := fun x => q _ _ ⟨⟨x, rfl⟩, R2, F2⟩
  generalize lt (w1 h 270 0 0) n k = g at *
  have a72 : ∀ m : Nat, m < 3 → x.toInt = (m : Int) → lx_X9_grid 298 (tf_Cd 298 10) Q 72 [.ref 270, .int x] [] g := fun m hm e => go_X9_grid_72 (by decide) (by
    rw [ti_n (by omega) e]
    exact ⟨vi_of (by omega) (by omega), q2 _⟩)
  have a97 : ∀ m : Nat, 5 ≤ m → m < 9 → x.toInt = (m : Int) → lx_X9_grid 298 (tf_Cd 298 10) Q 97 [.ref 270, .int x] [] g := fun m h5 hm e => go_X9_grid_97 (by decide) (by
    have : (3 : Int32) + x - 5 = nI (3 + m - 5) := by
      rw [ti_n (by omega) e, show (3 : Int32) = nI 3 from rfl, show (5 : Int32) = nI 5 from rfl, nI_add, nI_sub (by omega)]
    rw [this]
    exact ⟨vi_of (by omega) (by omega), q2 _⟩)
  exact ⟨fun _ => go_X9_grid_127 (by decide) (q2 _), fun e => a72 0 (by omega) e, fun e => a72 1 (by omega) e, fun e => a72 2 (by omega) e, fun _ => go_X9_grid_79 (by decide) (sx_many (d := 6) G2.1 _ (go_X9_grid_83 (by decide) ⟨fun _ => go_X9_grid_91 (by decide) (q2 _), fun _ => go_X9_grid_90 (by decide) (go_X9_grid_91 (by decide) (q2 _))⟩)), fun _ => go_X9_grid_92 (by decide) ((pv_un (d := 9) G2.1).c fun y => go_X9_grid_96 (by decide) (q2 _)), fun e => a97 5 (by omega) (by omega) e, fun e => a97 6 (by omega) (by omega) e, fun e => a97 7 (by omega) (by omega) e, fun e => a97 8 (by omega) (by omega) e, fun _ => go_X9_grid_108 (by decide) (sx_many (d := 6) G2.1 _ (go_X9_grid_112 (by decide) (q2 _))), fun _ => go_X9_grid_113 (by decide) (q2 _), fun _ => go_X9_grid_122 (by decide) (q2 _), trivial⟩
theorem rq_arc (R : RI h M) (x y : Int32) : RQ 73 [.int x, .int y] h M := by
  intro Q q
  obtain ⟨n0, k0, G0⟩ := R.1
  have e24b : ∀ v : Int32, ¬ v ≤ 0 → lx_X9_arc 298 (tf_Cd 298 10) Q 24 [.ref 270, .int x, .int y] [.int v, .ref 270] h := by
    intro v hv
    have e : (w1 h 270 0 v).1 270 0 = v := w1_eq
    refine go_X9_arc_24 (by decide) ⟨fun z => absurd (show (w1 h 270 0 v).1 270 0 ≤ 0 from z) (by rw [e]; exact hv), fun _ => q _ _ ⟨⟨_, rfl⟩, R.w0 (i := 0) (by decide), OF.w0⟩⟩
  refine en_X9_arc (by decide) (go_X9_arc_0 (by decide) (sx_risArc (d := 8) x _ (go_X9_arc_6 (by decide) ⟨fun _ => go_X9_arc_23 (by decide) (e24b _ (by decide)), fun c => sx_in (d := 9) _ _ _ _ (go_X9_arc_16 (by decide) ⟨fun _ => go_X9_arc_23 (by decide) (e24b _ (by decide)), fun c2 => ?_⟩)⟩)))
  rw [bI_0, Bool.not_eq_false] at c c2
  obtain ⟨a, ha, ea⟩ := rf_arc_t G0.1 c
  obtain ⟨w, -, hw, ew⟩ := rf_in_t (l := 0) (u := 7) (by omega) c2 (by omega)
  have e : (w1 h 270 0 0).1 270 0 = 0 := w1_eq
  refine go_X9_arc_24 (by decide) ⟨fun _ => go_X9_arc_36 (by decide) ?_, fun z => absurd (show (w1 h 270 0 0).1 270 0 ≤ 0 by rw [e]; decide) z⟩
  have R1 := R.w0 (i := 0) (v := 0) (by decide)
  have G : GI (w1 h 270 0 0) n0 k0 M := G0.w (by decide)
  have F := lt_fl (h := w1 h 270 0 0) (n := n0) (k := k0)
  have q2 : ∀ x : Int32, Q (.int x) (lt (w1 h 270 0 0) n0 k0) := fun x => q _ _ ⟨⟨x, rfl⟩, R1.fl F, OF.w0.tr F.of⟩
  have G2 := G.fl F
  refine sx_lt (h := w1 h 270 0 0) (d := 7) G.1 _ (go_X9_arc_40 (by decide) ?_)
  generalize lt (w1 h 270 0 0) n0 k0 = g at *
  have hn := G0.1.1
  refine ⟨fun _ => sx_of (d := 9) a 6 ea rfl (by omega) (by omega) _ (go_X9_arc_52 (by decide) ⟨fun _ => go_X9_arc_66 (by decide) (q2 _), fun _ => go_X9_arc_60 (by decide) (sx_of (d := 9) a 5 ea rfl (by omega) (by omega) _ (go_X9_arc_66 (by decide) (q2 _)))⟩), fun c5 => go_X9_arc_67 (by decide) ⟨fun _ => sx_rred (d := 8) G2.1 a ea ha _ (go_X9_arc_78 (by decide) (go_X9_arc_109 (by decide) (q2 _))), fun c6 => go_X9_arc_81 (by decide) ⟨fun _ => sx_roff (d := 7) G2.1 a ea ha _ (go_X9_arc_92 (by decide) ⟨fun _ => go_X9_arc_99 (by decide) (go_X9_arc_109 (by decide) (q2 _)), fun _ => go_X9_arc_109 (by decide) (q2 _)⟩), fun c7 => go_X9_arc_103 (by decide) (sx_of (d := 9) a w ea ew (by omega) ?_ _ (go_X9_arc_109 (by decide) (q2 _)))⟩⟩⟩
  have : w ≠ 7 := fun z => c7 (by rw [ew, z]; rfl)
  omega
/-- up the tree till a point or the root -/
theorem pv_bw {p : Nat} (T : LT g n k) {x2 x3 : Int32} {Q : tf_Q} (hp : p < n) (q : ∀ x4 : Int32, lx_X9_below 298 (tf_Cd 298 (d + 1)) Q 44 [.ref 270, .int (nI p), .int x2, .int x3, .int x4] [] g) : ∀ (f o : Nat), o ≤ n → df g o ≤ f → lx_X9_below 298 (tf_Cd 298 (d + 1)) Q 17 [.ref 270, .int (nI p), .int x2, .int x3, .int (nI o)] [] g
  | 0, o, ho, hd => by
    have eo : o = n := by
      rcases Nat.lt_or_ge o n with z | z
      · have := (T.at z).2.2.1
        omega
      · omega
    refine go_X9_below_17 (by decide) (sx_root (d := d) _ (go_X9_below_23 (by decide) ⟨fun _ => q _, fun z => absurd ?_ z⟩))
    rw [T.1.2.1, eo]
  | f + 1, o, ho, hd => by
    have hn := T.1.1
    refine go_X9_below_17 (by decide) (sx_root (d := d) _ (go_X9_below_23 (by decide) ⟨fun _ => q _, fun z => ⟨fun _ => q _, fun _ => ⟨vi_of (by omega) (by omega), ?_⟩⟩⟩))
    have hl : o < n := by
      rcases Nat.lt_or_ge o n with y | y
      · exact y
      · exact absurd (by rw [T.1.2.1, show o = n by omega]) z
    obtain ⟨a1, a2, a3, -⟩ := T.at hl
    rw [nI_clamp (by omega), a1]
    exact pv_bw T hp q f (uf g o) a2 (by omega)
theorem pv_beL {p : Nat} (T : LT g n k) (hp : p < n) {Q : tf_Q} (q : ∀ x : Int32, Q (.int x) g) : ∀ (f o : Nat) (s : Int32) (x4 : Value), o + f = n → lx_X9_below 298 (tf_Cd 298 (d + 1)) Q 4 [.ref 270, .int (nI p), .int s, .int (nI o), x4] [] g
  | 0, o, s, x4, ho => by
    have hn := T.1.1
    exact go_X9_below_4 (by decide) ⟨fun _ => go_X9_below_64 (by decide) (q _), fun z => absurd (T.1.n2 (by omega) (by omega)) z⟩
  | f + 1, o, s, x4, ho => by
    have hn := T.1.1
    refine go_X9_below_4 (by decide) ⟨fun z => absurd z (T.1.n1 (by omega)), fun _ => pv_bw T hp (fun x4 => go_X9_below_44 (by decide) ⟨fun _ => go_X9_below_56 (by decide) ?_, fun _ => go_X9_below_55 (by decide) (go_X9_below_56 (by decide) ?_)⟩) (df g o) o (by omega) (Nat.le_refl _)⟩
    · rw [nI_1]
      exact pv_beL T hp q f (o + 1) _ _ (by omega)
    · rw [nI_1]
      exact pv_beL T hp q f (o + 1) _ _ (by omega)
theorem pv_be {p : Nat} (T : LT g n k) (hp : p < n) : PV (d + 2) 74 [.ref 270, .int (nI p)] g := pv_i fun Q q => en_X9_below (by decide) (go_X9_below_0 (by decide) (pv_beL T hp q n 0 _ _ (by omega)))
theorem rq_point (R : RI h M) (x y : Int32) : RQ 75 [.int x, .int y] h M := by
  intro Q q
  obtain ⟨n0, k0, G0⟩ := R.1
  have e24b : ∀ v : Int32, ¬ v ≤ 0 → lx_X9_point 298 (tf_Cd 298 10) Q 24 [.ref 270, .int x, .int y] [.int v, .ref 270] h := by
    intro v hv
    have e : (w1 h 270 0 v).1 270 0 = v := w1_eq
    refine go_X9_point_24 (by decide) ⟨fun z => absurd (show (w1 h 270 0 v).1 270 0 ≤ 0 from z) (by rw [e]; exact hv), fun _ => q _ _ ⟨⟨_, rfl⟩, R.w0 (i := 0) (by decide), OF.w0⟩⟩
  refine en_X9_point (by decide) (go_X9_point_0 (by decide) (sx_risPt (d := 8) x _ (go_X9_point_6 (by decide) ⟨fun _ => go_X9_point_23 (by decide) (e24b _ (by decide)), fun c => sx_in (d := 9) _ _ _ _ (go_X9_point_16 (by decide) ⟨fun _ => go_X9_point_23 (by decide) (e24b _ (by decide)), fun c2 => ?_⟩)⟩)))
  rw [bI_0, Bool.not_eq_false] at c c2
  have hn := G0.1.1
  have hp : ∃ p, p < n0 ∧ x = nI p := by
    unfold rf_isPt at c
    have e : h.1 271 0 - 1 = nI (n0 - 1) := by
      rw [G0.1.2.1, show n0 = n0 - 1 + 1 by omega]
      exact nI_pred _
    rw [e] at c
    obtain ⟨j, -, h2, h3⟩ := rf_in_t (l := 0) (u := n0 - 1) (by omega) c (by omega)
    exact ⟨j, by omega, h3⟩
  obtain ⟨p, hp, ep⟩ := hp
  subst ep
  have e : (w1 h 270 0 0).1 270 0 = 0 := w1_eq
  refine go_X9_point_24 (by decide) ⟨fun _ => go_X9_point_36 (by decide) ?_, fun z => absurd (show (w1 h 270 0 0).1 270 0 ≤ 0 by rw [e]; decide) z⟩
  have R1 := R.w0 (i := 0) (v := 0) (by decide)
  have G : GI (w1 h 270 0 0) n0 k0 M := G0.w (by decide)
  have F := lt_fl (h := w1 h 270 0 0) (n := n0) (k := k0)
  have T := G.lt
  have q2 : ∀ x : Int32, Q (.int x) (lt (w1 h 270 0 0) n0 k0) := fun x => q _ _ ⟨⟨x, rfl⟩, R1.fl F, OF.w0.tr F.of⟩
  refine sx_lt (h := w1 h 270 0 0) (d := 7) G.1 _ (go_X9_point_40 (by decide) ?_)
  generalize lt (w1 h 270 0 0) n0 k0 = g at *
  have v8 : vp_in (nI p) 8 := vi_of (by omega) (by omega)
  have i44' : (44 : Int32) + nI p = nI (44 + p) := nI_add 44 p
  have i58 : (58 : Int32) + nI p = nI (58 + p) := nI_add 58 p
  have i65' : (65 : Int32) + nI p = nI (65 + p) := nI_add 65 p
  refine ⟨fun _ => go_X9_point_124 (by decide) ?_, fun _ => go_X9_point_80 (by decide) ?_, fun _ => go_X9_point_90 (by decide) ⟨v8, q2 _⟩, fun _ => go_X9_point_97 (by decide) ⟨v8, q2 _⟩, fun _ => go_X9_point_104 (by decide) ⟨v8, q2 _⟩, fun _ => go_X9_point_111 (by decide) ⟨v8, q2 _⟩, fun _ => go_X9_point_118 (by decide) ((pv_be (d := 8) T hp).c fun y => go_X9_point_123 (by decide) (q2 _)), trivial⟩
  · rw [i65', i58]
    exact ⟨vi_of (by omega) (by omega), vi_of (by omega) (by omega), q2 _⟩
  · rw [i44']
    exact ⟨vi_of (by omega) (by omega), q2 _⟩
theorem pv_ccL {c : Nat} (Y : CY g c) {Q : tf_Q} (q : ∀ x : Int32, Q (.int x) g) : ∀ (f i : Nat) (s : Int32) (x3 : Value), i + f = c → lx_X9_costOfCycle 298 (tf_Cd 298 (d + 1)) Q 4 [.ref 270, .int s, .int (nI i), x3] [] g
  | 0, i, s, x3, hi => by
    have hc := Y.2.1
    refine go_X9_costOfCycle_4 (by decide) ⟨fun _ => go_X9_costOfCycle_66 (by decide) (q _), fun z => absurd ?_ z⟩
    rw [Y.1]
    exact nI_le (by omega) (by omega)
  | f + 1, i, s, x3, hi => by
    have hc := Y.2.1
    have v16 : vp_in (nI i) 16 := vi_of (by omega) (by omega)
    have cl : (nI i).toNatClampNeg = i := nI_clamp (by omega)
    have V := Y.2.2 i (by omega)
    have e41 : ∀ y : Int32, lx_X9_costOfCycle 298 (tf_Cd 298 (d + 1)) Q 41 [.ref 270, .int s, .int (nI i), x3] [.int y] g := by
      intro y
      refine go_X9_costOfCycle_41 (by decide) ⟨v16, fun _ => go_X9_costOfCycle_56 (by decide) (go_X9_costOfCycle_58 (by decide) ?_), fun _ => go_X9_costOfCycle_58 (by decide) ?_⟩
      · rw [nI_1]
        exact pv_ccL Y q f (i + 1) _ _ (by omega)
      · rw [nI_1]
        exact pv_ccL Y q f (i + 1) _ _ (by omega)
    refine go_X9_costOfCycle_4 (by decide) ⟨fun z => ?_, fun _ => ⟨v16, sx_isLoan (d := d) _ _ (go_X9_costOfCycle_21 (by decide) ⟨fun b => go_X9_costOfCycle_30 (by decide) ⟨v16, ?_⟩, fun b => e41 _⟩)⟩⟩
    · rw [Y.1] at z
      exact absurd z (nI_ge (by omega) (by omega))
    · rw [bI_0, cl] at b
      rw [cl]
      rcases V with ⟨a, ha, e⟩ | ⟨p, hp, e⟩
      · exact sx_of (d := d) a 3 e rfl ha (by omega) _ (e41 _)
      · rw [e, loan_p hp] at b
        cases b
theorem pv_cc {c : Nat} (Y : CY g c) : PV (d + 2) 78 [.ref 270] g := pv_i fun Q q => en_X9_costOfCycle (by decide) (go_X9_costOfCycle_0 (by decide) (pv_ccL Y q c 0 _ _ (by omega)))
/-- only the cycle and its joint: an ordinary call may do so -/
theorem Fj.of (F : Fj h g) : OF h g := ⟨fun e he => F.1 e (by omega) (by omega) (by omega), fun ix _ _ => by rw [F.1 271 (by decide) (by decide) (by decide)], F.1 272 (by decide) (by decide) (by decide), F.1 273 (by decide) (by decide) (by decide), F.1 275 (by decide) (by decide) (by decide)⟩
theorem RI.fj (R : RI h M) (F : Fj h g) : RI g M := by
  obtain ⟨n, k, G⟩ := R.1
  exact R.of (Nat.le_refl _) F.of ⟨n, k, G.cong (fun i _ => by rw [F.1 271 (by decide) (by decide) (by decide)])⟩ (R.2.1.same (F.2.2 5 (by decide) (by decide)) (F.1 274 (by decide) (by decide) (by decide)))
theorem in_c {x : Int32} {c : Nat} (hc : c ≤ 16) (b : rf_in (x - 10) 0 (nI c - 1) = true) : vp_in (x - 10) 16 := by
  rcases Nat.eq_zero_or_pos c with z | z
  · unfold rf_in at b
    simp only [Bool.and_eq_true, Bool.not_eq_true', decide_eq_false_iff_not] at b
    rw [z] at b
    have h1 := Int32.not_lt.mp b.1
    have h2 := Int32.not_lt.mp b.2
    exact absurd (Int32.le_trans h1 h2) (by decide)
  · have e : nI c - 1 = nI (c - 1) := by
      rw [show c = c - 1 + 1 by omega]
      exact nI_pred _
    rw [e] at b
    obtain ⟨j, -, h2, h3⟩ := rf_in_t (l := 0) (u := c - 1) (by omega) b (by omega)
    rw [h3]
    exact vi_of (by omega) (by omega)
theorem rq_path (R : RI h M) (x y w : Int32) : RQ 79 [.int x, .int y, .int w] h M := by
  intro Q q
  have R1 := R.w0 (i := 0) (v := 0) (by decide)
  have F0 := OF.w0 (h := h) (i := 0) (v := 0)
  refine en_X9_path (by decide) (go_X9_path_0 (by decide) ?_)
  show tf_Cd 298 10 _ _ (w1 h 270 0 0) _
  generalize w1 h 270 0 0 = h1 at *
  refine sx_rtwo (d := 7) x y _ (go_X9_path_11 (by decide) ⟨fun _ => q _ _ ⟨⟨_, rfl⟩, R1, F0⟩, fun c => go_X9_path_18 (by decide) ?_⟩)
  rw [bI_0, Bool.not_eq_false] at c
  obtain ⟨n, k, G⟩ := R1.1
  obtain ⟨p, o, hp, ho, -, ep, eo⟩ := rf_two_t G.1 c
  subst ep eo
  have hn := G.1.1
  have F := lt_fl (h := h1) (n := n) (k := k)
  have T := G.lt
  have R2 := R1.fl F
  have F2 := F0.tr F.of
  refine sx_lt (d := 7) G.1 _ (go_X9_path_22 (by decide) ?_)
  generalize lt h1 n k = g at *
  obtain ⟨i, j, hi, hj, ei, ej, -⟩ := mt_ok T _ p o (show p ≤ n by omega) (show o ≤ n by omega) (Nat.le_refl _)
  have ti := T.tu i p (by omega) hi
  have tj := T.tu j o (by omega) hj
  have dp := (T.dp (show p ≤ n by omega)).2
  have dd := (T.dp (show o ≤ n by omega)).2
  refine sx_mt (d := 9) T (show p ≤ n by omega) (show o ≤ n by omega) _ (go_X9_path_29 (by decide) ?_)
  generalize mt g (df g p + df g o) p o = z at *
  have r31 : (w1 (w1 g 270 31 (nI z)) 270 30 0).1 270 31 = nI z := (w1_at (by decide)).trans w1_eq
  have r30 : (w1 (w1 g 270 31 (nI z)) 270 30 0).1 270 30 = nI 0 := w1_eq
  have FJ : Fj g (w1 (w1 g 270 31 (nI z)) 270 30 0) := ⟨fun e _ _ h3 => by rw [w1_ne h3, w1_ne h3], rfl, fun i h1 h2 => by rw [w1_at h1, w1_at h2]⟩
  show tf_Cd 298 10 _ [.ref 270, .int (nI p), .int ((w1 (w1 g 270 31 (nI z)) 270 30 0).1 270 31)] (w1 (w1 g 270 31 (nI z)) 270 30 0) _
  generalize w1 (w1 g 270 31 (nI z)) 270 30 0 = g1 at *
  rw [r31]
  have T1 : LT g1 n k := FJ.lt T
  have Y1 : CY g1 0 := ⟨r30, by omega, fun i hi => absurd hi (by omega)⟩
  have q1 : g1.1 281 = g.1 281 := FJ.1 281 (by decide) (by decide) (by decide)
  have q3 : g1.1 283 = g.1 283 := FJ.1 283 (by decide) (by decide) (by decide)
  have s1 := sx_gu (d := 6) T1 (c := 0) (j := i) (y := p) (to := z) Y1 (by omega) (by rw [df_same q3]; exact hi) (by omega) (by rw [tw_same q1]; exact ei.symm)
  obtain ⟨Y2, K2⟩ := gu_ok i 0 p g1 T1 Y1 (by omega) (by rw [df_same q3]; exact hi) (by omega)
  refine s1 _ (go_X9_path_46 (by decide) ?_)
  rw [Nat.zero_add] at Y2
  generalize gu 0 i p g1 = g2 at *
  rw [K2.2.2 31 (by decide), r31]
  have T2 : LT g2 n k := K2.lt T1
  have p1 : g2.1 281 = g.1 281 := (K2.1 281 (by decide) (by decide) (by decide)).trans q1
  have p3 : g2.1 283 = g.1 283 := (K2.1 283 (by decide) (by decide) (by decide)).trans q3
  have s2 := sx_gd (d := 6) T2 (c := i) (i := j) (x := o) (z := z) Y2 (by omega) (by rw [df_same p3]; exact hj) (by omega) (by rw [tw_same p1]; exact ej.symm)
  obtain ⟨Y3, K3⟩ := gd_ok j i o g2 T2 Y2 (by omega) (by rw [df_same p3]; exact hj) (by omega)
  refine s2 _ (go_X9_path_55 (by decide) ?_)
  generalize gd i j o g2 = g3 at *
  have FA : Fj g g3 := ⟨fun e h1 h2 h3 => ((K3.1 e h1 h2 h3).trans (K2.1 e h1 h2 h3)).trans (FJ.1 e h1 h2 h3), (K3.2.1.trans K2.2.1).trans FJ.2.1, fun i h1 h2 => ((K3.2.2 i h1).trans (K2.2.2 i h1)).trans (FJ.2.2 i h1 h2)⟩
  have qq : ∀ x : Int32, Q (.int x) g3 := fun x => q _ _ ⟨⟨x, rfl⟩, R2.fj FA, F2.tr FA.of⟩
  refine ⟨fun _ => qq _, fun _ => go_X9_path_64 (by decide) ⟨fun _ => sx_rlr (d := 7) Y3 _ (go_X9_path_73 (by decide) ⟨fun _ => go_X9_path_89 (by decide) (qq _), fun _ => go_X9_path_87 (by decide) (go_X9_path_89 (by decide) (qq _))⟩), fun _ => go_X9_path_90 (by decide) ⟨fun _ => (pv_cc (d := 8) Y3).c fun y => go_X9_path_99 (by decide) (go_X9_path_134 (by decide) (qq _)), fun _ => go_X9_path_102 (by decide) (sx_in (d := 9) _ _ _ _ (go_X9_path_116 (by decide) ⟨fun _ => go_X9_path_131 (by decide) (go_X9_path_134 (by decide) (qq _)), fun b => ⟨?_, go_X9_path_134 (by decide) (qq _)⟩⟩))⟩⟩⟩
  rw [bI_0, Bool.not_eq_false, Y3.1] at b
  exact in_c Y3.2.1 b
theorem rq_past (R : RI h M) (x y : Int32) : RQ 81 [.int x, .int y] h M := by
  intro Q q
  have R1 := R.w0 (i := 0) (v := 0) (by decide)
  have F0 := OF.w0 (h := h) (i := 0) (v := 0)
  refine en_X9_past (by decide) (go_X9_past_0 (by decide) ?_)
  show tf_Cd 298 10 _ [.int x, .int 0, .int ((w1 h 270 0 0).1 271 7 - 1)] (w1 h 270 0 0) _
  generalize w1 h 270 0 0 = h1 at *
  have qq : ∀ x : Int32, Q (.int x) h1 := fun x => q _ _ ⟨⟨x, rfl⟩, R1, F0⟩
  obtain ⟨n, k, G⟩ := R1.1
  obtain ⟨v, hv, ev⟩ := G.2.2.2.2.2.2
  rw [ev]
  refine sx_in (d := 9) _ _ _ _ (go_X9_past_19 (by decide) ⟨fun _ => go_X9_past_47 (by decide) (go_X9_past_48 (by decide) (qq _)), fun c => sx_in (d := 9) _ _ _ _ (go_X9_past_28 (by decide) ⟨fun _ => go_X9_past_47 (by decide) (go_X9_past_48 (by decide) (qq _)), fun c2 => ⟨?_, go_X9_past_48 (by decide) (qq _)⟩⟩)⟩)
  rw [bI_0, Bool.not_eq_false] at c c2
  have hx : ∃ j, j < 12 ∧ x = nI j := by
    rcases Nat.eq_zero_or_pos v with z | z
    · unfold rf_in at c
      simp only [Bool.and_eq_true, Bool.not_eq_true', decide_eq_false_iff_not] at c
      rw [z] at c
      have h1 := Int32.not_lt.mp c.1
      have h2 := Int32.not_lt.mp c.2
      exact absurd (Int32.le_trans h1 h2) (by decide)
    · have e : nI v - 1 = nI (v - 1) := by
        rw [show v = v - 1 + 1 by omega]
        exact nI_pred _
      rw [e] at c
      obtain ⟨j, -, h2, h3⟩ := rf_in_t (l := 0) (u := v - 1) (by omega) c (by omega)
      exact ⟨j, by omega, h3⟩
  obtain ⟨j, hj, ej⟩ := hx
  obtain ⟨w, -, hw, ew⟩ := rf_in_t (l := 0) (u := 2) (by omega) c2 (by omega)
  have e : (8 : Int32) + 3 * x + y = nI (8 + 3 * j + w) := by
    rw [ej, ew, show (3 : Int32) = nI 3 from rfl, show (8 : Int32) = nI 8 from rfl, nI_mul, nI_add, nI_add]
  rw [e]
  exact vi_of (by omega) (by omega)
end R86
