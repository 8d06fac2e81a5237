/-! ===== arc, point on both sides ===== -/
section THA
variable {h g r : LH} {t M d n k m : Nat}
def qv_arc (h : LH) (x y : Int32) : Int32 := if y.toInt = 0 then h.1 2 x.toNatClampNeg else if y.toInt = 1 then h.1 3 x.toNatClampNeg else if y.toInt = 2 then h.1 4 x.toNatClampNeg else if y.toInt = 3 then h.1 5 x.toNatClampNeg else if y.toInt = 4 then h.1 6 x.toNatClampNeg else if y.toInt = 5 then h.1 7 x.toNatClampNeg else if y.toInt = 6 then nt_red h 0 x else if nt_off h 0 x ≤ 0 then 0 else 1
/-- arc tells, and does not throw -/
def ok_arc (h : LH) (x y : Int32) : Prop := nt_hasArc h 0 x = true ∧ 0 ≤ y.toInt ∧ y.toInt ≤ 7
theorem xc_arc (H : NO h 0 n k) (x y : Int32) {Q : tf_Q} {QX : LH → Prop} (q : ok_arc h x y → Q (.int (qv_arc h x y)) h) (qx : ¬ ok_arc h x y → QX h) : xt_Cd tb_X8_arc xt_p_arc [.ref 240, .int x, .int y] h Q QX := by
  have K := H.1
  refine enE_arc (goE_arc_0 (sx_hasArc (d := 5) K x _ (goE_arc_8 ⟨fun c => qx (fun z => ?_), fun c => ?_⟩)))
  · rw [bI_0, z.1] at c
    cases c
  have ex : nt_hasArc h 0 x = true := by
    rw [bI_0] at c
    simpa using c
  have hk := H.2.1.2.2
  have vx := ha_vi H.2.2.2.1 hk ex
  obtain ⟨j, hj, ej⟩ := vi_nI vx
  have v21 : vp_in x 21 := by rw [ej]; exact vi_of (by omega) (by omega)
  have en : nt_ends h 0 x := by rw [ej]; exact H.ends (by omega)
  have q2 : ∀ a : Int32, 0 ≤ y.toInt → y.toInt ≤ 7 → a = qv_arc h x y → Q (.int a) h := fun a h1 h2 e => by
    rw [e]
    exact q ⟨ex, h1, h2⟩
  unfold qv_arc at q2
  refine goE_arc_19 ⟨fun c => goE_arc_154 (qx (fun z => ?_)), fun c => goE_arc_68 ⟨v21, q2 _ (by omega) (by omega) ?_⟩, fun c => goE_arc_78 ⟨v21, q2 _ (by omega) (by omega) ?_⟩, fun c => goE_arc_88 ⟨v21, q2 _ (by omega) (by omega) ?_⟩, fun c => goE_arc_98 ⟨v21, q2 _ (by omega) (by omega) ?_⟩, fun c => goE_arc_108 ⟨v21, q2 _ (by omega) (by omega) ?_⟩, fun c => goE_arc_118 ⟨v21, q2 _ (by omega) (by omega) ?_⟩, fun c => goE_arc_128 (sx_red (d := 5) K en _ (goE_arc_136 (q2 _ (by omega) (by omega) ?_))), fun c => goE_arc_137 (sx_off (d := 4) K en _ (goE_arc_145 ⟨fun z => goE_arc_152 (goE_arc_153 (q2 _ (by omega) (by omega) ?_)), fun z => goE_arc_153 (q2 _ (by omega) (by omega) ?_)⟩)), trivial⟩
  · have := z.2
    omega
  · rw [if_pos c]
  · rw [if_neg (by omega), if_pos c]
  · rw [if_neg (by omega), if_neg (by omega), if_pos c]
  · rw [if_neg (by omega), if_neg (by omega), if_neg (by omega), if_pos c]
  · rw [if_neg (by omega), if_neg (by omega), if_neg (by omega), if_neg (by omega), if_pos c]
  · rw [if_neg (by omega), if_neg (by omega), if_neg (by omega), if_neg (by omega), if_neg (by omega), if_pos c]
  · rw [if_neg (by omega), if_neg (by omega), if_neg (by omega), if_neg (by omega), if_neg (by omega), if_neg (by omega), if_pos c]
  · rw [if_neg (by omega), if_neg (by omega), if_neg (by omega), if_neg (by omega), if_neg (by omega), if_neg (by omega), if_neg (by omega), if_pos z]
  · rw [if_neg (by omega), if_neg (by omega), if_neg (by omega), if_neg (by omega), if_neg (by omega), if_neg (by omega), if_neg (by omega), if_neg z]
theorem har_eq (G : GI r n k M) (N : NR h 0 r n k m) (z : Int32) : nt_hasArc h 0 z = rf_isArc r z := by
  have e1 := N.1.1.2.1
  have r1 := G.1.2.2.1
  have n7 := G.1.1
  unfold nt_hasArc rf_isArc
  rw [e1, r1]
  by_cases z0 : z < 0
  · unfold rf_in
    simp [z0]
  · obtain ⟨j, hj, e⟩ := nI_of z0
    subst e
    by_cases jn : j < k
    · rw [(rin_lt hj (by omega)).mpr jn]
      have : ¬ nI k ≤ nI j := nI_ge jn (by omega)
      simp [z0, this]
    · rw [Bool.eq_false_iff.mpr (fun w => jn ((rin_lt hj (by omega)).mp w))]
      have : nI k ≤ nI j := nI_le (by omega) hj
      simp [this]
theorem in_i {y : Int32} {u : Nat} (hu : u < 1000) : rf_in y 0 (nI u) = true ↔ 0 ≤ y.toInt ∧ y.toInt ≤ (u : Int) := by
  have e0 : (0 : Int32).toInt = 0 := by decide
  have e1 : (nI u).toInt = (u : Int) := nI_toInt (by omega)
  unfold rf_in
  simp only [Bool.and_eq_true, Bool.not_eq_true', decide_eq_false_iff_not, Int32.lt_iff_toInt_lt, e0, e1]
  omega
/-- arc of the reference -/
theorem xv_arc (G0 : GI g n k M) (N : NR h 0 g n k m) (x y : Int32) : tf_Sp 11 73 [.ref 270, .int x, .int y] g (fun v g2 => (ok_arc h x y → v = .int (qv_arc h x y) ∧ g2.1 270 0 = 0) ∧ (¬ ok_arc h x y → g2.1 270 0 = 1) ∧ g2.2 = g.2) := by
  intro Q q
  have ha1 := har_eq G0 N x
  have in7 := in_i (y := y) (u := 7) (by omega)
  have nok : ¬ ok_arc h x y → lx_X9_arc 298 (tf_Cd 298 10) Q 24 [.ref 270, .int x, .int y] [.int 1, .ref 270] g := by
    intro z
    have e : (w1 g 270 0 1).1 270 0 = 1 := w1_eq
    refine go_X9_arc_24 (by decide) ⟨fun y => absurd (show (w1 g 270 0 1).1 270 0 ≤ 0 from y) (by rw [e]; decide), fun _ => q _ _ ⟨fun y => absurd y z, fun _ => e, rfl⟩⟩
  refine en_X9_arc (by decide) (go_X9_arc_0 (by decide) (sx_risArc (d := 8) x _ (go_X9_arc_6 (by decide) ⟨fun c => go_X9_arc_23 (by decide) (nok (fun z => ?_)), fun c => sx_in (d := 9) _ _ _ _ (go_X9_arc_16 (by decide) ⟨fun c2 => go_X9_arc_23 (by decide) (nok (fun z => ?_)), fun c2 => ?_⟩)⟩)))
  · rw [bI_0, ← ha1, z.1] at c
    cases c
  · rw [bI_0] at c2
    have := in7.mpr z.2
    rw [show (7 : Int32) = nI 7 from rfl, this] at c2
    cases c2
  rw [bI_0, Bool.not_eq_false] at c c2
  have ok : ok_arc h x y := ⟨ha1.trans c, in7.mp c2⟩
  have q2' : ∀ (v : Int32) (g2 : LH), v = qv_arc h x y → g2.1 270 0 = 0 → g2.2 = g.2 → Q (.int v) g2 := fun v g2 e e0 e2 => q _ _ ⟨fun _ => ⟨by rw [e], e0⟩, fun z => absurd ok z, e2⟩
  obtain ⟨a, ha, ea⟩ := rf_arc_t G0.1 c
  have e : (w1 g 270 0 0).1 270 0 = 0 := w1_eq
  refine go_X9_arc_24 (by decide) ⟨fun _ => go_X9_arc_36 (by decide) ?_, fun z => absurd (show (w1 g 270 0 0).1 270 0 ≤ 0 by rw [e]; decide) z⟩
  have G : GI (w1 g 270 0 0) n k M := G0.w (by decide)
  have N1 : NR h 0 (w1 g 270 0 0) n k m := N.w0 G0
  have off := N1.off G a ha
  obtain ⟨L, P, C, Pe, E, F, Co, S, G2⟩ := N1.lay G
  have f0 : (lt (w1 g 270 0 0) n k).1 270 0 = 0 := by rw [lt_fl.1 270 (by decide)]; exact e
  have f2 : (lt (w1 g 270 0 0) n k).2 = g.2 := lt_fl.2
  refine sx_lt (h := w1 g 270 0 0) (d := 7) G.1 _ (go_X9_arc_40 (by decide) ?_)
  generalize lt (w1 g 270 0 0) n k = g1 at *
  have q2 : ∀ (v : Int32) (g2 : LH), v = qv_arc h x y → g2 = g1 → Q (.int v) g2 := fun v g2 e eg => by
    rw [eg]
    exact q2' v g1 e f0 f2
  have hn := G0.1.1
  have red := red_eq L E Co Pe ha
  obtain ⟨w, -, hw, ew⟩ := rf_in_t (l := 0) (u := 7) (by omega) c2 (by omega)
  have yi : y.toInt = (w : Int) := by rw [ew, nI_toInt (by omega)]
  have xc : x.toNatClampNeg = a := by rw [ea, nI_clamp (by omega)]
  unfold qv_arc at q2
  rw [xc, ea, yi] at q2
  have yw : ∀ c : Nat, c < 10 → (y = nI c ↔ w = c) := fun c hc => by rw [ew]; exact nI_eq (by omega) (by omega)
  have y5 := yw 5 (by omega)
  have y6 := yw 6 (by omega)
  have y7 := yw 7 (by omega)
  refine ⟨fun c5 => ?_, fun c5 => go_X9_arc_67 (by decide) ⟨fun c6 => ?_, fun c6 => go_X9_arc_81 (by decide) ⟨fun c7 => ?_, fun c7 => go_X9_arc_103 (by decide) ?_⟩⟩⟩
  · have w5 := y5.mp c5
    subst w5
    refine sx_of (d := 9) a 6 ea rfl (by omega) (by omega) _ (go_X9_arc_52 (by decide) ⟨fun z => go_X9_arc_66 (by decide) (q2 _ _ ?_ rfl), fun z => go_X9_arc_60 (by decide) (sx_of (d := 9) a 5 ea rfl (by omega) (by omega) _ (go_X9_arc_66 (by decide) (q2 _ _ ?_ rfl)))⟩)
    · rw [if_neg (by omega), if_neg (by omega), if_neg (by omega), if_neg (by omega), if_neg (by omega), if_pos (by omega)]
      rcases S a ha with ⟨z6, -, -⟩ | ⟨-, e7, -⟩
      · rw [z6] at z
        exact absurd z (by decide)
      · exact e7.symm
    · rw [if_neg (by omega), if_neg (by omega), if_neg (by omega), if_neg (by omega), if_neg (by omega), if_pos (by omega)]
      rcases S a ha with ⟨-, e7, -⟩ | ⟨z6, -, -⟩
      · exact e7.symm
      · exact absurd z6 z
  · have w6 := y6.mp c6
    subst w6
    refine sx_rred (d := 8) G2.1 a ea ha _ (go_X9_arc_78 (by decide) (go_X9_arc_109 (by decide) (q2 _ _ ?_ rfl)))
    rw [if_neg (by omega), if_neg (by omega), if_neg (by omega), if_neg (by omega), if_neg (by omega), if_neg (by omega), if_pos (by omega), red]
  · have w7 := y7.mp c7
    subst w7
    refine sx_roff (d := 7) G2.1 a ea ha _ (go_X9_arc_92 (by decide) ⟨fun z => go_X9_arc_99 (by decide) (go_X9_arc_109 (by decide) (q2 _ _ ?_ rfl)), fun z => go_X9_arc_109 (by decide) (q2 _ _ ?_ rfl)⟩)
    · rw [bI_0] at z
      rw [if_neg (by omega), if_neg (by omega), if_neg (by omega), if_neg (by omega), if_neg (by omega), if_neg (by omega), if_neg (by omega), off.2 z]
      rfl
    · rw [bI_0, Bool.not_eq_false] at z
      obtain ⟨e1, e2⟩ := off.1 z
      rw [if_neg (by omega), if_neg (by omega), if_neg (by omega), if_neg (by omega), if_neg (by omega), if_neg (by omega), if_neg (by omega), e1, if_neg (Int32.not_le.mpr e2)]
  · have n5 : w ≠ 5 := fun z => c5 (y5.mpr z)
    have n6 : w ≠ 6 := fun z => c6 (y6.mpr z)
    have n7 : w ≠ 7 := fun z => c7 (y7.mpr z)
    refine sx_of (d := 9) a w ea ew (by omega) (by omega) _ (go_X9_arc_109 (by decide) (q2 _ _ ?_ rfl))
    have w5 : w = 0 ∨ w = 1 ∨ w = 2 ∨ w = 3 ∨ w = 4 := by omega
    rcases w5 with rfl | rfl | rfl | rfl | rfl
    · rw [if_pos (by omega)]
      exact (E.1 a ha).1.symm
    · rw [if_neg (by omega), if_pos (by omega)]
      exact (E.1 a ha).2.symm
    · rw [if_neg (by omega), if_neg (by omega), if_pos (by omega)]
      exact (F.1 a ha).1.symm
    · rw [if_neg (by omega), if_neg (by omega), if_neg (by omega), if_pos (by omega)]
      exact (Co.1 a ha).symm
    · rw [if_neg (by omega), if_neg (by omega), if_neg (by omega), if_neg (by omega), if_pos (by omega)]
      exact (F.1 a ha).2.symm
/-! point -/
def qv_point (h : LH) (n : Nat) (x y : Int32) : Int32 := if y.toInt = 0 then h.1 1 x.toNatClampNeg else if y.toInt = 1 then h.1 10 x.toNatClampNeg else if y.toInt = 2 then nt_told h 0 (h.1 8 x.toNatClampNeg) else if y.toInt = 3 then nt_told8 (h.1 9 x.toNatClampNeg) else if y.toInt = 4 then nI (nt_dep h 0 n x) else if y.toInt = 5 then nt_cbl h 0 n x n 0 0 else nt_loan h 0 x
def ok_point (h : LH) (x y : Int32) : Prop := nt_hasPt h 0 x = true ∧ 0 ≤ y.toInt ∧ y.toInt ≤ 6
theorem xc_point (H : NO h 0 n k) (x y : Int32) {Q : tf_Q} {QX : LH → Prop} (q : ok_point h x y → Q (.int (qv_point h n x y)) h) (qx : ¬ ok_point h x y → QX h) : xt_Cd tb_X8_point xt_p_point [.ref 240, .int x, .int y] h Q QX := by
  have K := H.1
  refine enE_point (goE_point_0 (sx_hasPt (d := 5) K x _ (goE_point_8 ⟨fun c => qx (fun z => ?_), fun c => ?_⟩)))
  · rw [bI_0, z.1] at c
    cases c
  have ex : nt_hasPt h 0 x = true := by
    rw [bI_0] at c
    simpa using c
  have hn := H.2.1.2.1
  have vx := hp_vi H.2.2.1 hn ex
  obtain ⟨j, hj, ej⟩ := vi_nI vx
  have v7 : vp_in x 7 := by rw [ej]; exact vi_of (by omega) (by omega)
  have v8 : vp_in x 8 := by rw [ej]; exact vi_of (by omega) (by omega)
  have v21 : vp_in (14 + x) 21 := by rw [ej, nI_14]; exact vi_of (by omega) (by omega)
  have q2 : ∀ a : Int32, 0 ≤ y.toInt → y.toInt ≤ 6 → a = qv_point h n x y → Q (.int a) h := fun a h1 h2 e => by
    rw [e]
    exact q ⟨ex, h1, h2⟩
  unfold qv_point at q2
  refine goE_point_19 ⟨fun c => goE_point_141 (qx (fun z => ?_)), fun c => goE_point_64 ⟨v7, q2 _ (by omega) (by omega) ?_⟩, fun c => goE_point_74 ⟨v8, q2 _ (by omega) (by omega) ?_⟩, fun c => goE_point_84 ⟨v7, sx_toldNode (d := 5) K _ _ (goE_point_100 (q2 _ (by omega) (by omega) ?_))⟩, fun c => goE_point_101 ⟨v7, sx_toldEdge (d := 5) _ _ (goE_point_113 (q2 _ (by omega) (by omega) ?_))⟩, fun c => goE_point_114 (sx_dep (d := 5) K H.2.2.1 hn H.2.2.2.2.1 v8 _ (goE_point_122 (q2 _ (by omega) (by omega) ?_))), fun c => goE_point_123 (sx_cbl (d := 4) K H.2.2.1 hn H.2.2.2.2.1 x _ (goE_point_131 (q2 _ (by omega) (by omega) ?_))), fun c => goE_point_132 (sx_loan (d := 5) K v21 _ (goE_point_140 (q2 _ (by omega) (by omega) ?_))), trivial⟩
  · have := z.2
    omega
  · rw [if_pos c]
  · rw [if_neg (by omega), if_pos c]
  · rw [if_neg (by omega), if_neg (by omega), if_pos c]
  · rw [if_neg (by omega), if_neg (by omega), if_neg (by omega), if_pos c]
  · rw [if_neg (by omega), if_neg (by omega), if_neg (by omega), if_neg (by omega), if_pos c]
  · rw [if_neg (by omega), if_neg (by omega), if_neg (by omega), if_neg (by omega), if_neg (by omega), if_pos c]
  · rw [if_neg (by omega), if_neg (by omega), if_neg (by omega), if_neg (by omega), if_neg (by omega), if_neg (by omega)]
/-- on the way up from o lies p, or not -/
theorem onw_bw {p : Nat} (T : LT g n k) {x2 x3 : Int32} {Q : tf_Q} (hp : p < n) : ∀ (f o : Nat), o ≤ n → df g o ≤ f → ((∃ j, j ≤ df g o ∧ tw g j o = p) → lx_X9_below 298 (tf_Cd 298 (d + 1)) Q 44 [.ref 270, .int (nI p), .int x2, .int x3, .int (nI p)] [] g) → ((¬ ∃ j, j ≤ df g o ∧ tw g j o = p) → lx_X9_below 298 (tf_Cd 298 (d + 1)) Q 44 [.ref 270, .int (nI p), .int x2, .int x3, .int (nI n)] [] g) → lx_X9_below 298 (tf_Cd 298 (d + 1)) Q 17 [.ref 270, .int (nI p), .int x2, .int x3, .int (nI o)] [] g
  | 0, o, ho, hd, q1, q2 => by
    have eo : o = n := (T.d0 ho).mp (by omega)
    refine go_X9_below_17 (by decide) (sx_root (d := d) _ (go_X9_below_23 (by decide) ⟨fun _ => ?_, fun z => absurd ?_ z⟩))
    · rw [eo]
      refine q2 ?_
      rintro ⟨j, hj, e⟩
      have j0 : j = 0 := by omega
      subst j0
      have : o = p := e
      omega
    · rw [T.1.2.1, eo]
  | f + 1, o, ho, hd, q1, q2 => by
    have hn := T.1.1
    refine go_X9_below_17 (by decide) (sx_root (d := d) _ (go_X9_below_23 (by decide) ⟨fun z => ?_, fun z => ⟨fun y => ?_, fun y => ⟨vi_of (by omega) (by omega), ?_⟩⟩⟩))
    · rw [T.1.2.1] at z
      have eo : o = n := ((nI_eq (by omega) (by omega)).mp z)
      rw [eo]
      refine q2 ?_
      rintro ⟨j, hj, e⟩
      have := (T.d0 ho).mpr eo
      have j0 : j = 0 := by omega
      subst j0
      have : o = p := e
      omega
    · have : o = p := (nI_eq (by omega) (by omega)).mp y
      rw [this]
      exact q1 ⟨0, Nat.zero_le _, this⟩
    · have hl : o < n := by
        rcases Nat.lt_or_ge o n with w | w
        · exact w
        · exact absurd (by rw [T.1.2.1, show o = n by omega]) z
      have op : o ≠ p := fun w => y (by rw [w])
      obtain ⟨a1, a2, a3, -⟩ := T.at hl
      rw [nI_clamp (by omega), a1]
      have ex : (∃ j, j ≤ df g o ∧ tw g j o = p) ↔ ∃ j, j ≤ df g (uf g o) ∧ tw g j (uf g o) = p := by
        constructor
        · rintro ⟨j, hj, e⟩
          cases j with
          | zero => exact absurd e op
          | succ j => exact ⟨j, by omega, e⟩
        · rintro ⟨j, hj, e⟩
          exact ⟨j + 1, by omega, e⟩
      exact onw_bw T hp f (uf g o) a2 (by omega) (fun z => q1 (ex.mpr z)) (fun z => q2 (fun w => z (ex.mp w)))
theorem xv_beL {p : Nat} (T : LT g n k) (C : CT h 0 g n) (hp : p < n) {Q : tf_Q} : ∀ (f o : Nat) (s : Int32) (x4 : Value), o + f = n → Q (.int (nt_cbl h 0 n (nI p) f o s)) g → lx_X9_below 298 (tf_Cd 298 (d + 1)) Q 4 [.ref 270, .int (nI p), .int s, .int (nI o), x4] [] g
  | 0, o, s, x4, ho, q => by
    have hn := T.1.1
    exact go_X9_below_4 (by decide) ⟨fun _ => go_X9_below_64 (by decide) q, fun z => absurd (T.1.n2 (by omega) (by omega)) z⟩
  | f + 1, o, s, x4, ho, q => by
    have hn := T.1.1
    have on := ct_onw T C (z := p) (by omega) n o (by omega) (T.dn (by omega))
    rw [cI_lt hp, cI_lt (show o < n by omega)] at on
    rw [nt_cbl] at q
    refine go_X9_below_4 (by decide) ⟨fun z => absurd z (T.1.n1 (by omega)), fun _ => onw_bw T hp (df g o) o (by omega) (Nat.le_refl _) (fun z => go_X9_below_44 (by decide) ⟨fun _ => go_X9_below_56 (by decide) ?_, fun y => absurd rfl y⟩) (fun z => go_X9_below_44 (by decide) ⟨fun y => ?_, fun _ => go_X9_below_55 (by decide) (go_X9_below_56 (by decide) ?_)⟩)⟩
    · rw [if_pos (on.mpr z)] at q
      rw [nI_1]
      exact xv_beL T C hp f (o + 1) _ _ (by omega) q
    · have := (nI_eq (a := n) (b := p) (by omega) (by omega)).mp y
      omega
    · rw [if_neg (fun y => z (on.mp y))] at q
      rw [nI_1, Int32.add_zero]
      exact xv_beL T C hp f (o + 1) _ _ (by omega) q
theorem xv_be {p : Nat} (T : LT g n k) (C : CT h 0 g n) (hp : p < n) : tf_Rt (d + 2) 74 [.ref 270, .int (nI p)] g (.int (nt_cbl h 0 n (nI p) n 0 0)) g := fun Q q => en_X9_below (by decide) (go_X9_below_0 (by decide) (xv_beL T C hp n 0 0 _ (by omega) q))
theorem xv_point (G0 : GI g n k M) (N : NR h 0 g n k m) (x y : Int32) : tf_Sp 11 75 [.ref 270, .int x, .int y] g (fun v g2 => (ok_point h x y → v = .int (qv_point h n x y) ∧ g2.1 270 0 = 0) ∧ (¬ ok_point h x y → g2.1 270 0 = 1) ∧ g2.2 = g.2) := by
  intro Q q
  have hp1 := ptr_eq (h := h) (b := 0) G0 N.1.1.1 x
  have in6 := in_i (y := y) (u := 6) (by omega)
  have nok : ¬ ok_point h x y → lx_X9_point 298 (tf_Cd 298 10) Q 24 [.ref 270, .int x, .int y] [.int 1, .ref 270] g := by
    intro z
    have e : (w1 g 270 0 1).1 270 0 = 1 := w1_eq
    refine go_X9_point_24 (by decide) ⟨fun y => absurd (show (w1 g 270 0 1).1 270 0 ≤ 0 from y) (by rw [e]; decide), fun _ => q _ _ ⟨fun y => absurd y z, fun _ => e, rfl⟩⟩
  refine en_X9_point (by decide) (go_X9_point_0 (by decide) (sx_risPt (d := 8) x _ (go_X9_point_6 (by decide) ⟨fun c => go_X9_point_23 (by decide) (nok (fun z => ?_)), fun c => sx_in (d := 9) _ _ _ _ (go_X9_point_16 (by decide) ⟨fun c2 => go_X9_point_23 (by decide) (nok (fun z => ?_)), fun c2 => ?_⟩)⟩)))
  · rw [bI_0, ← hp1, z.1] at c
    cases c
  · rw [bI_0] at c2
    have := in6.mpr z.2
    rw [show (6 : Int32) = nI 6 from rfl, this] at c2
    cases c2
  rw [bI_0, Bool.not_eq_false] at c c2
  have ok : ok_point h x y := ⟨hp1.trans c, in6.mp c2⟩
  have q2' : ∀ (v : Int32) (g2 : LH), v = qv_point h n x y → g2.1 270 0 = 0 → g2.2 = g.2 → Q (.int v) g2 := fun v g2 e e0 e2 => q _ _ ⟨fun _ => ⟨by rw [e], e0⟩, fun z => absurd ok z, e2⟩
  have hn := G0.1.1
  obtain ⟨p, hp, ep⟩ : ∃ p, p < n ∧ x = nI p := by
    unfold rf_isPt at c
    have e : g.1 271 0 - 1 = nI (n - 1) := by
      rw [G0.1.2.1, show n = n - 1 + 1 by omega]
      exact nI_pred _
    rw [e] at c
    obtain ⟨j, -, h2, h3⟩ := rf_in_t (l := 0) (u := n - 1) (by omega) c (by omega)
    exact ⟨j, by omega, h3⟩
  have e : (w1 g 270 0 0).1 270 0 = 0 := w1_eq
  refine go_X9_point_24 (by decide) ⟨fun _ => go_X9_point_36 (by decide) ?_, fun z => absurd (show (w1 g 270 0 0).1 270 0 ≤ 0 by rw [e]; decide) z⟩
  have G : GI (w1 g 270 0 0) n k M := G0.w (by decide)
  have N1 : NR h 0 (w1 g 270 0 0) n k m := N.w0 G0
  obtain ⟨L, P, C, Pe, E, F, Co, S, G2⟩ := N1.lay G
  have f0 : (lt (w1 g 270 0 0) n k).1 270 0 = 0 := by rw [lt_fl.1 270 (by decide)]; exact e
  have f2 : (lt (w1 g 270 0 0) n k).2 = g.2 := lt_fl.2
  have f1 : (lt (w1 g 270 0 0) n k).1 271 = (w1 g 270 0 0).1 271 := lt_fl.r
  refine sx_lt (h := w1 g 270 0 0) (d := 7) G.1 _ (go_X9_point_40 (by decide) ?_)
  have su := N1.1.2.1 p hp
  rw [← f1] at su
  have e0 := N1.1.1.1
  generalize lt (w1 g 270 0 0) n k = g1 at *
  have q2 : ∀ (v : Int32) (g2 : LH), v = qv_point h n x y → g2 = g1 → Q (.int v) g2 := fun v g2 e eg => by
    rw [eg]
    exact q2' v g1 e f0 f2
  have v8 : vp_in (nI p) 8 := vi_of (by omega) (by omega)
  have i44' : (44 : Int32) + nI p = nI (44 + p) := nI_add 44 p
  have i58 : (58 : Int32) + nI p = nI (58 + p) := nI_add 58 p
  have i65' : (65 : Int32) + nI p = nI (65 + p) := nI_add 65 p
  have i14 : (14 : Int32) + nI p = nI (14 + p) := nI_add 14 p
  obtain ⟨w, -, hw, ew⟩ := rf_in_t (l := 0) (u := 6) (by omega) c2 (by omega)
  have yi : y.toInt = (w : Int) := by rw [ew, nI_toInt (by omega)]
  subst ep
  unfold qv_point at q2
  rw [nI_clamp (show p < 2 ^ 31 by omega)] at q2
  obtain ⟨cu, ce⟩ := C p hp
  have cu : h.1 8 p = cI n (uf g1 p) := cu
  have ce : h.1 9 p = eK (g1.1 282 p) := ce
  obtain ⟨a1, a2, a3, a4, a5, a6⟩ := L.at hp
  refine ⟨fun z => go_X9_point_124 (by decide) ?_, fun z => go_X9_point_80 (by decide) ?_, fun z => go_X9_point_90 (by decide) ⟨v8, q2 _ _ ?_ rfl⟩, fun z => go_X9_point_97 (by decide) ⟨v8, q2 _ _ ?_ rfl⟩, fun z => go_X9_point_104 (by decide) ⟨v8, q2 _ _ ?_ rfl⟩, fun z => go_X9_point_111 (by decide) ⟨v8, q2 _ _ ?_ rfl⟩, fun z => go_X9_point_118 (by decide) (xv_be (d := 8) L C hp _ (go_X9_point_123 (by decide) (q2 _ _ ?_ rfl))), trivial⟩
  · rw [i65', i58, nI_clamp (show 65 + p < 2 ^ 31 by omega), nI_clamp (show 58 + p < 2 ^ 31 by omega)]
    refine ⟨vi_of (by omega) (by omega), vi_of (by omega) (by omega), q2 _ _ ?_ rfl⟩
    rw [if_neg (by omega), if_neg (by omega), if_neg (by omega), if_neg (by omega), if_neg (by omega), if_neg (by omega)]
    unfold nt_loan
    rw [i14, nI_clamp (show 14 + p < 2 ^ 31 by omega)]
    obtain ⟨-, -, -, dw⟩ := G2.2.2.2.2.2.1 p hp
    have ed := F.2 p hp
    have et := E.2 p hp
    rcases dw with w1' | w1'
    · rw [if_pos (et.1 w1').1, ed, w1', Int32.mul_one]
    · have nw : g1.1 271 (58 + p) ≠ 1 := by rw [w1']; decide
      rw [if_neg (by
        rw [(et.2 nw).1]
        exact fun z => absurd ((nI_eq (a := 7) (b := p) (by omega) (by omega)).mp z) (by omega)), ed, w1', Int32.mul_neg, Int32.mul_one]
  · rw [i44', nI_clamp (show 44 + p < 2 ^ 31 by omega)]
    refine ⟨vi_of (by omega) (by omega), q2 _ _ ?_ rfl⟩
    rw [if_pos z]
    exact su.symm
  · rw [if_neg (by omega), if_pos z, nI_clamp (by omega)]
    exact (Pe.2 p hp).symm
  · rw [if_neg (by omega), if_neg (by omega), if_pos z, nI_clamp (by omega), a1, cu]
    exact (told_cI (g := h) hn.2.1 a2 e0).symm
  · rw [if_neg (by omega), if_neg (by omega), if_neg (by omega), if_pos z, nI_clamp (by omega), ce, told_eK hn.2.1 hn.2.2 (by_ed L hp)]
  · rw [if_neg (by omega), if_neg (by omega), if_neg (by omega), if_neg (by omega), if_pos z, nI_clamp (by omega), a5]
    have := ct_dep L C n p (by omega) (L.dn (by omega))
    rw [cI_lt hp] at this
    rw [this]
  · rw [if_neg (by omega), if_neg (by omega), if_neg (by omega), if_neg (by omega), if_neg (by omega), if_pos z]
end THA
theorem upL_at {f : Nat → Nat → Int64} {c i : Nat} {v : Int64} : tf_upL f c i v c i = v := by simp [tf_upL, vp_updL]
