/-! ===== questions of the reference return, 2 ===== -/
section R87
variable {h g : LH} {n k M d : Nat}
theorem rq_next (R : RI h M) (w : Int32) : RQ 80 [.int w] h M := by
  intro Q q
  obtain ⟨n, k, G, G2, R2, F2⟩ := R.lt0
  have T := G.lt
  refine en_X9_next (by decide) (go_X9_next_0 (by decide) (sx_lt (h := w1 h 270 0 0) (d := 7) G.1 _ (go_X9_next_9 (by decide) ?_)))
  generalize lt (w1 h 270 0 0) n k = g1 at *
  have hn := G2.1.1
  have H1 := G2.1
  have S1 := G2.2.2.1
  have s2 := sx_en (d := 6) H1 S1
  refine s2 _ (go_X9_next_13 (by decide) ⟨fun _ => q _ _ ⟨⟨_, rfl⟩, R2, F2⟩, fun c => go_X9_next_21 (by decide) ?_⟩)
  obtain ⟨a, ha, ea⟩ := vi_nI ((en_f_in H1 S1 k 0 (-1) (by omega) (Or.inl rfl)).resolve_left c)
  have ho := (en_f_off H1 S1 k 0 (-1) (by omega) (Or.inl rfl)).resolve_left c
  rw [ea, nI_clamp (by omega)] at ho
  rw [ea]
  have hxy : ∃ x y, x < n ∧ y < n ∧ (if rm g1 a 5 = 0 then rm g1 a 0 else rm g1 a 1) = nI x ∧ (if rm g1 a 5 = 0 then rm g1 a 1 else rm g1 a 0) = nI y := by
    obtain ⟨p, q, hp, hq, e1, e2⟩ := H1.ends ha
    by_cases z : rm g1 a 5 = 0
    · exact ⟨p, q, hp, hq, by rw [if_pos z]; exact e1, by rw [if_pos z]; exact e2⟩
    · exact ⟨q, p, hq, hp, by rw [if_neg z]; exact e2, by rw [if_neg z]; exact e1⟩
  obtain ⟨x, y, hx, hy, ex, ey⟩ := hxy
  have s3 := sx_lc (d := 5) T ha hx hy ex ey
  obtain ⟨Y, FJ, -⟩ := lc_ok T ha (show x ≤ n by omega) (show y ≤ n by omega)
  have lst := lc_least T G2.2.2.2.1 ha (show x ≤ n by omega) (show y ≤ n by omega) ho
  have s4 := sx_rlr (d := 7) Y
  obtain ⟨m, hm, em, s5⟩ := sx_lv2 (d := 7) Y lst
  refine s3 _ (go_X9_next_26 (by decide) (s4 _ (go_X9_next_30 (by decide) ?_)))
  have qq : ∀ x_1 : Int32, Q (.int x_1) (lc g1 a x y) := fun v => q _ _ ⟨⟨v, rfl⟩, R2.fj FJ, F2.tr FJ.of⟩
  generalize rlr (lc g1 a x y) (lc_n g1 x y) 0 1000000 = dl at *
  generalize lc g1 a x y = g3 at *
  refine ⟨fun _ => go_X9_next_88 (by decide) (sx_in (d := 9) _ _ _ _ (go_X9_next_102 (by decide) ⟨fun _ => go_X9_next_117 (by decide) (go_X9_next_118 (by decide) (qq _)), fun b => ⟨?_, go_X9_next_118 (by decide) (qq _)⟩⟩)), fun _ => go_X9_next_68 (by decide) (qq _), fun _ => go_X9_next_70 (by decide) (s5 _ (go_X9_next_75 (by decide) (qq _))), fun _ => go_X9_next_76 (by decide) (qq _), fun _ => go_X9_next_78 (by decide) (qq _), fun _ => go_X9_next_83 (by decide) (qq _), trivial⟩
  rw [bI_0, Bool.not_eq_false, Y.1] at b
  exact in_c Y.2.1 b
theorem pv_biL (H : RM h n k) {Q : tf_Q} (q : ∀ x : Int32, Q (.int x) h) : ∀ (f a : Nat) (s : Int32), a + f = k → lx_X9_billed 298 (tf_Cd 298 (d + 1)) Q 4 [.ref 270, .int s, .int (nI a)] [] h
  | 0, a, s, ha => by
    have hn := H.1
    exact go_X9_billed_4 (by decide) ⟨fun _ => go_X9_billed_36 (by decide) (q _), fun z => absurd (H.k2 (by omega) (by omega)) z⟩
  | f + 1, a, s, ha => by
    have hn := H.1
    refine go_X9_billed_4 (by decide) ⟨fun z => absurd z (H.k1 (by omega)), fun _ => sx_of (d := d) a 4 rfl rfl (by omega) (by omega) _ (go_X9_billed_21 (by decide) (sx_of (d := d) a 3 rfl rfl (by omega) (by omega) _ (go_X9_billed_27 (by decide) ?_)))⟩
    rw [nI_1]
    exact pv_biL H q f (a + 1) _ (by omega)
theorem pv_bi (H : RM h n k) : PV (d + 2) 82 [.ref 270] h := pv_i fun Q q => en_X9_billed (by decide) (go_X9_billed_0 (by decide) (pv_biL H q k 0 _ (by omega)))
theorem RI.p0 (R : RI h M) : ∃ n k, GI (w1 h 270 0 0) n k M ∧ RI (w1 h 270 0 0) M ∧ OF h (w1 h 270 0 0) := by
  have R1 := R.w0 (i := 0) (v := 0) (by decide)
  obtain ⟨n, k, G⟩ := R1.1
  exact ⟨n, k, G, R1, OF.w0⟩
theorem rq_bill (R : RI h M) (x : Int32) : RQ 83 [.int x] h M := by
  intro Q q
  obtain ⟨n, k, G, R1, F⟩ := R.p0
  refine en_X9_bill (by decide) (go_X9_bill_0 (by decide) ?_)
  show tf_Cd 298 10 _ _ (w1 h 270 0 0) _
  generalize w1 h 270 0 0 = h1 at *
  have qq : ∀ x : Int32, Q (.int x) h1 := fun x => q _ _ ⟨⟨x, rfl⟩, R1, F⟩
  exact (pv_bi (d := 8) G.1).c fun y => go_X9_bill_9 (by decide) ⟨fun _ => go_X9_bill_30 (by decide) (qq _), fun _ => go_X9_bill_27 (by decide) (go_X9_bill_30 (by decide) (qq _))⟩
theorem pv_faL (H : RM h n k) {x1 : Int32} {Q : tf_Q} (q : ∀ x : Int32, Q (.int x) h) : ∀ (f a : Nat) (s : Int32), a + f = k → lx_X9_flowAt 298 (tf_Cd 298 (d + 1)) Q 4 [.ref 270, .int x1, .int s, .int (nI a)] [] h
  | 0, a, s, ha => by
    have hn := H.1
    exact go_X9_flowAt_4 (by decide) ⟨fun _ => go_X9_flowAt_43 (by decide) (q _), fun z => absurd (H.k2 (by omega) (by omega)) z⟩
  | f + 1, a, s, ha => by
    have hn := H.1
    refine go_X9_flowAt_4 (by decide) ⟨fun z => absurd z (H.k1 (by omega)), fun _ => sx_of (d := d) a 3 rfl rfl (by omega) (by omega) _ (go_X9_flowAt_21 (by decide) ⟨fun _ => sx_of (d := d) a 4 rfl rfl (by omega) (by omega) _ (go_X9_flowAt_31 (by decide) (go_X9_flowAt_35 (by decide) ?_)), fun _ => go_X9_flowAt_34 (by decide) (go_X9_flowAt_35 (by decide) ?_)⟩)⟩
    · rw [nI_1]
      exact pv_faL H q f (a + 1) _ (by omega)
    · rw [nI_1]
      exact pv_faL H q f (a + 1) _ (by omega)
theorem pv_fa (H : RM h n k) (x1 : Int32) : PV (d + 2) 84 [.ref 270, .int x1] h := pv_i fun Q q => en_X9_flowAt (by decide) (go_X9_flowAt_0 (by decide) (pv_faL H q k 0 _ (by omega)))
theorem m99 {j : Nat} : nI j - 99 + 1 = nI (j + 1) - 99 := by
  rw [← nI_1, Int32.sub_eq_add_neg, Int32.sub_eq_add_neg, Int32.add_assoc, Int32.add_comm (-99), ← Int32.add_assoc]
theorem m99_lt {j : Nat} (hj : j ≤ 198) : ¬ (99 : Int32) < nI j - 99 := by
  rw [Int32.lt_iff_toInt_lt, show (99 : Int32) = nI 99 from rfl, pk_sub_toInt (by omega) (by omega), nI_toInt (by omega)]
  omega
theorem pv_leL (H : RM h n k) {x1 x2 : Int32} {Q : tf_Q} (q : ∀ x : Int32, Q (.int x) h) : ∀ (f j : Nat) (s : Int32), j + f = 199 → lx_X9_ledger 298 (tf_Cd 298 (d + 2)) Q 11 [.ref 270, .int x1, .int x2, .int s, .int (nI j - 99)] [] h
  | 0, j, s, hj => by
    have e : j = 199 := by omega
    subst e
    exact go_X9_ledger_11 (by decide) ⟨fun _ => go_X9_ledger_57 (by decide) ⟨fun _ => go_X9_ledger_69 (by decide) (q _), fun _ => go_X9_ledger_66 (by decide) (go_X9_ledger_69 (by decide) (q _))⟩, fun z => absurd (by decide) z⟩
  | f + 1, j, s, hj => by
    have e51 : ∀ s : Int32, lx_X9_ledger 298 (tf_Cd 298 (d + 2)) Q 51 [.ref 270, .int x1, .int x2, .int s, .int (nI j - 99)] [] h := fun s => go_X9_ledger_51 (by decide) (by rw [m99]; exact pv_leL H q f (j + 1) s (by omega))
    exact go_X9_ledger_11 (by decide) ⟨fun z => absurd z (m99_lt (by omega)), fun _ => (pv_fa (d := d) H _).c fun y => go_X9_ledger_24 (by decide) ⟨fun _ => e51 _, fun _ => ⟨fun _ => ⟨fun _ => go_X9_ledger_45 (by decide) (go_X9_ledger_47 (by decide) (q _)), fun _ => (pv_fa (d := d) H _).c fun y2 => go_X9_ledger_42 (by decide) (go_X9_ledger_47 (by decide) (q _))⟩, fun _ => go_X9_ledger_48 (by decide) (e51 _)⟩⟩⟩
theorem rq_ledger (R : RI h M) (x y : Int32) : RQ 85 [.int x, .int y] h M := by
  intro Q q
  obtain ⟨n, k, G, R1, F⟩ := R.p0
  refine en_X9_ledger (by decide) (go_X9_ledger_0 (by decide) ?_)
  show lx_X9_ledger 298 (tf_Cd 298 10) Q 11 [.ref 270, .int x, .int y, .int 0, .int (nI 0 - 99)] [] (w1 h 270 0 0)
  generalize w1 h 270 0 0 = h1 at *
  exact pv_leL (d := 8) G.1 (fun x => q _ _ ⟨⟨x, rfl⟩, R1, F⟩) 199 0 0 (by omega)
theorem pv_fi {s a : Nat} (hs : s ≤ 4) (ha : a < 14) : PV (d + 1) 92 [.ref 270, .int (nI s), .int (nI a)] h := by
  refine pv_i fun Q q => en_X9_flowIn (by decide) (go_X9_flowIn_0 (by decide) ?_)
  have e1 : (173 : Int32) * nI s + 1 = nI (173 * s + 1) := by rw [show (173 : Int32) = nI 173 from rfl, nI_mul, nI_1]
  have e2 : (173 : Int32) * nI s + 72 + 7 * nI a + 4 = nI (173 * s + 72 + 7 * a + 4) := by
    rw [show (173 : Int32) = nI 173 from rfl, show (72 : Int32) = nI 72 from rfl, show (7 : Int32) = nI 7 from rfl, show (4 : Int32) = nI 4 from rfl, nI_mul, nI_mul, nI_add, nI_add, nI_add]
  rw [e1, e2]
  exact ⟨vi_of (by omega) (by omega), fun _ => go_X9_flowIn_37 (by decide) (go_X9_flowIn_38 (by decide) (q _)), fun _ => ⟨vi_of (by omega) (by omega), go_X9_flowIn_38 (by decide) (q _)⟩⟩
theorem pv_apL {j : Nat} (hj : j < 3) {Q : tf_Q} (q : ∀ x : Int32, Q (.int x) h) : ∀ (f a : Nat) (s : Int32), a + f = 14 → lx_X9_apart 298 (tf_Cd 298 (d + 1)) Q 29 [.ref 270, .int (nI j), .int s, .int (nI a)] [] h
  | 0, a, s, ha => by
    have e : a = 14 := by omega
    subst e
    exact go_X9_apart_29 (by decide) ⟨fun _ => go_X9_apart_66 (by decide) (q _), fun z => absurd (nI_le (a := 14) (b := 14) (by omega) (by omega)) z⟩
  | f + 1, a, s, ha => by
    refine go_X9_apart_29 (by decide) ⟨fun z => absurd z (nI_ge (a := a) (b := 14) (by omega) (by omega)), fun _ => (pv_fi (s := 0) (d := d) (by omega) (by omega)).c fun y => go_X9_apart_42 (by decide) ?_⟩
    rw [nI_1]
    refine (pv_fi (s := j + 1) (d := d) (by omega) (by omega)).c fun y2 => go_X9_apart_50 (by decide) ⟨fun _ => go_X9_apart_58 (by decide) ?_, fun _ => go_X9_apart_57 (by decide) (go_X9_apart_58 (by decide) ?_)⟩
    · rw [nI_1]
      exact pv_apL hj q f (a + 1) _ (by omega)
    · rw [nI_1]
      exact pv_apL hj q f (a + 1) _ (by omega)
theorem rq_apart (R : RI h M) (x : Int32) : RQ 93 [.int x] h M := by
  intro Q q
  obtain ⟨n, k, G, R1, F⟩ := R.p0
  refine en_X9_apart (by decide) (go_X9_apart_0 (by decide) ?_)
  show tf_Cd 298 10 _ _ (w1 h 270 0 0) _
  generalize w1 h 270 0 0 = h1 at *
  have qq : ∀ x : Int32, Q (.int x) h1 := fun x => q _ _ ⟨⟨x, rfl⟩, R1, F⟩
  refine sx_in (d := 9) _ _ _ _ (go_X9_apart_11 (by decide) ⟨fun _ => go_X9_apart_23 (by decide) (qq _), fun c => ?_⟩)
  rw [bI_0, Bool.not_eq_false] at c
  obtain ⟨j, -, hj, ej⟩ := rf_in_t (l := 0) (u := 2) (by omega) c (by omega)
  subst ej
  exact ⟨vi_of (by omega) (by omega), fun _ => go_X9_apart_23 (by decide) (qq _), fun _ => go_X9_apart_25 (by decide) (pv_apL (d := 9) (by omega) qq 14 0 _ (by omega))⟩
theorem pv_boA (H : RM h n k) {x1 : Int32} {Q : tf_Q} (q : ∀ x : Int32, Q (.int x) h) : ∀ (f a : Nat) (s : Int32) (x4 : Value), a + f = k → lx_X9_bothOf 298 (tf_Cd 298 (d + 1)) Q 47 [.ref 270, .int x1, .int s, .int (nI a), x4] [] h
  | 0, a, s, x4, ha => by
    have hn := H.1
    exact go_X9_bothOf_47 (by decide) ⟨fun _ => go_X9_bothOf_125 (by decide) (q _), fun z => absurd (H.k2 (by omega) (by omega)) z⟩
  | f + 1, a, s, x4, ha => by
    have hn := H.1
    have e117 : ∀ (x4 y : Int32), lx_X9_bothOf 298 (tf_Cd 298 (d + 1)) Q 117 [.ref 270, .int x1, .int s, .int (nI a), .int x4] [.int y, .int s] h := fun x4 y => go_X9_bothOf_117 (by decide) (by rw [nI_1]; exact pv_boA H q f (a + 1) _ _ (by omega))
    have e116 : ∀ x4 : Int32, lx_X9_bothOf 298 (tf_Cd 298 (d + 1)) Q 116 [.ref 270, .int x1, .int s, .int (nI a), .int x4] [.int s] h := fun x4 => go_X9_bothOf_116 (by decide) (e117 _ _)
    have e89 : ∀ y : Int32, lx_X9_bothOf 298 (tf_Cd 298 (d + 1)) Q 89 [.ref 270, .int x1, .int s, .int (nI a), x4] [.int y] h := fun y => go_X9_bothOf_89 (by decide) ⟨fun _ => e116 _, fun _ => sx_of (d := d) a 6 rfl rfl (by omega) (by omega) _ (go_X9_bothOf_104 (by decide) ⟨fun _ => sx_of (d := d) a 2 rfl rfl (by omega) (by omega) _ (go_X9_bothOf_113 (by decide) (e117 _ _)), fun _ => e116 _⟩)⟩
    have e88 : lx_X9_bothOf 298 (tf_Cd 298 (d + 1)) Q 88 [.ref 270, .int x1, .int s, .int (nI a), x4] [] h := go_X9_bothOf_88 (by decide) (e89 _)
    exact go_X9_bothOf_47 (by decide) ⟨fun z => absurd z (H.k1 (by omega)), fun _ => sx_of (d := d) a 0 rfl rfl (by omega) (by omega) _ (go_X9_bothOf_64 (by decide) ⟨fun _ => sx_of (d := d) a 1 rfl rfl (by omega) (by omega) _ (go_X9_bothOf_78 (by decide) ⟨fun _ => e89 _, fun _ => e88⟩), fun _ => e88⟩)⟩
theorem pv_boP (H : RM h n k) {x1 : Int32} {Q : tf_Q} (q : ∀ x : Int32, Q (.int x) h) : ∀ (f p : Nat) (s : Int32), p + f = n → lx_X9_bothOf 298 (tf_Cd 298 (d + 1)) Q 4 [.ref 270, .int x1, .int s, .int (nI p), tf_z] [] h
  | 0, p, s, hp => by
    have hn := H.1
    exact go_X9_bothOf_4 (by decide) ⟨fun _ => go_X9_bothOf_45 (by decide) (pv_boA H q k 0 _ _ (by omega)), fun z => absurd (H.n2 (by omega) (by omega)) z⟩
  | f + 1, p, s, hp => by
    have hn := H.1
    have i44' : (44 : Int32) + nI p = nI (44 + p) := nI_add 44 p
    have e37 : ∀ y : Int32, lx_X9_bothOf 298 (tf_Cd 298 (d + 1)) Q 37 [.ref 270, .int x1, .int s, .int (nI p), tf_z] [.int y, .int s] h := fun y => go_X9_bothOf_37 (by decide) (by rw [nI_1]; exact pv_boP H q f (p + 1) _ (by omega))
    exact go_X9_bothOf_4 (by decide) ⟨fun z => absurd z (H.n1 (by omega)), fun _ => ⟨fun _ => ⟨by rw [i44']; exact vi_of (by omega) (by omega), e37 _⟩, fun _ => go_X9_bothOf_36 (by decide) (e37 _)⟩⟩
theorem pv_bo (H : RM h n k) (x1 : Int32) : PV (d + 2) 107 [.ref 270, .int x1] h := pv_i fun Q q => en_X9_bothOf (by decide) (go_X9_bothOf_0 (by decide) (pv_boP H q n 0 _ (by omega)))
theorem pv_onL {x0 : Int32} {Q : tf_Q} (q : ∀ x : Int32, Q (.int x) h) : ∀ (f p : Nat) (s : Int32), p + f = 7 → lx_X9_ones 298 (tf_Cd 298 d) Q 4 [.int x0, .int s, .int (nI p)] [] h
  | 0, p, s, hp => by
    have e : p = 7 := by omega
    subst e
    exact go_X9_ones_4 (by decide) ⟨fun _ => go_X9_ones_24 (by decide) (q _), fun z => absurd (nI_le (a := 7) (b := 7) (by omega) (by omega)) z⟩
  | f + 1, p, s, hp => go_X9_ones_4 (by decide) ⟨fun z => absurd z (nI_ge (a := p) (b := 7) (by omega) (by omega)), fun _ => by rw [nI_1]; exact pv_onL q f (p + 1) _ (by omega)⟩
theorem pv_on (x0 : Int32) : PV (d + 1) 108 [.int x0] h := pv_i fun Q q => en_X9_ones (by decide) (go_X9_ones_0 (by decide) (pv_onL q 7 0 _ (by omega)))
theorem rm_shl (H : RM h n k) : ((1 : Int32) <<< (h.1 271 (0 : Int32).toNatClampNeg &&& 31)) = nI (2 ^ n) := by
  have : h.1 271 (0 : Int32).toNatClampNeg = nI n := H.2.1
  rw [this]
  exact nt_shl n H.1.2.1
theorem pv_cuL (H : RM h n k) {Q : tf_Q} (q : ∀ x : Int32, Q (.int x) h) : ∀ (f s : Nat) (b : Int32) (x3 : Value), s + f = 2 ^ n → lx_X9_cut 298 (tf_Cd 298 (d + 2)) Q 9 [.ref 270, .int b, .int (nI s), x3] [] h
  | 0, s, b, x3, hs => by
    have hp := nt_pw H.1.2.1
    refine go_X9_cut_9 (by decide) ⟨fun _ => go_X9_cut_64 (by decide) (q _), fun z => absurd ?_ z⟩
    rw [rm_shl H]
    exact nI_le (by omega) (by omega)
  | f + 1, s, b, x3, hs => by
    have hp := nt_pw H.1.2.1
    have e57 : ∀ (x3 y : Int32), lx_X9_cut 298 (tf_Cd 298 (d + 2)) Q 57 [.ref 270, .int b, .int (nI s), .int x3] [.int y] h := fun x3 y => go_X9_cut_57 (by decide) (by rw [nI_1]; exact pv_cuL H q f (s + 1) _ _ (by omega))
    refine go_X9_cut_9 (by decide) ⟨fun z => ?_, fun _ => (pv_bo (d := d) H _).c fun y => go_X9_cut_26 (by decide) ((pv_bo (d := d) H _).c fun y2 => go_X9_cut_31 (by decide) ⟨fun _ => go_X9_cut_52 (by decide) (e57 _ _), fun _ => ⟨fun _ => (pv_on (d := d + 1) _).c fun y3 => go_X9_cut_45 (by decide) ((pv_on (d := d + 1) _).c fun y4 => go_X9_cut_49 (by decide) ⟨fun _ => go_X9_cut_56 (by decide) (e57 _ _), fun _ => go_X9_cut_52 (by decide) (e57 _ _)⟩), fun _ => go_X9_cut_56 (by decide) (e57 _ _)⟩⟩)⟩
    rw [rm_shl H] at z
    exact absurd z (nI_ge (by omega) (by omega))
theorem rq_cut (R : RI h M) : RQ 109 [] h M := by
  intro Q q
  obtain ⟨n, k, G, R1, F⟩ := R.p0
  have hp := nt_pw G.1.1.2.1
  refine en_X9_cut (by decide) (go_X9_cut_0 (by decide) ?_)
  show lx_X9_cut 298 (tf_Cd 298 10) Q 9 [.ref 270, .int 0, .int (nI 1), tf_z] [] (w1 h 270 0 0)
  generalize w1 h 270 0 0 = h1 at *
  exact pv_cuL (d := 8) G.1 (fun x => q _ _ ⟨⟨x, rfl⟩, R1, F⟩) (2 ^ n - 1) 1 _ _ (by omega)
theorem pv_laL (H : RM h n k) {Q : tf_Q} (q : ∀ x : Int32, Q (.int x) h) : ∀ (f s : Nat) (b : Int32), s + f = 2 ^ n → lx_X9_lack 298 (tf_Cd 298 (d + 2)) Q 9 [.ref 270, .int b, .int (nI s)] [] h
  | 0, s, b, hs => by
    have hp := nt_pw H.1.2.1
    refine go_X9_lack_9 (by decide) ⟨fun _ => go_X9_lack_37 (by decide) (q _), fun z => absurd ?_ z⟩
    rw [rm_shl H]
    exact nI_le (by omega) (by omega)
  | f + 1, s, b, hs => by
    have hp := nt_pw H.1.2.1
    refine go_X9_lack_9 (by decide) ⟨fun z => ?_, fun _ => (pv_bo (d := d) H _).c fun y => go_X9_lack_27 (by decide) (sx_greater (d := d + 1) _ _ _ (go_X9_lack_30 (by decide) ?_))⟩
    · rw [rm_shl H] at z
      exact absurd z (nI_ge (by omega) (by omega))
    · rw [nI_1]
      exact pv_laL H q f (s + 1) _ (by omega)
theorem rq_lack (R : RI h M) : RQ 110 [] h M := by
  intro Q q
  obtain ⟨n, k, G, R1, F⟩ := R.p0
  have hp := nt_pw G.1.1.2.1
  refine en_X9_lack (by decide) (go_X9_lack_0 (by decide) ?_)
  show lx_X9_lack 298 (tf_Cd 298 10) Q 9 [.ref 270, .int 0, .int (nI 1)] [] (w1 h 270 0 0)
  generalize w1 h 270 0 0 = h1 at *
  exact pv_laL (d := 8) G.1 (fun x => q _ _ ⟨⟨x, rfl⟩, R1, F⟩) (2 ^ n - 1) 1 _ (by omega)
theorem pv_lt (x y : Int32) : PV (d + 1) 104 [.ref 270, .int x, .int y] h := pv_i fun Q q => en_X9_lessThan (by decide) (go_X9_lessThan_0 (by decide) ⟨fun _ => go_X9_lessThan_14 (by decide) (go_X9_lessThan_23 (by decide) (q _)), fun _ => ⟨fun _ => go_X9_lessThan_14 (by decide) (go_X9_lessThan_23 (by decide) (q _)), fun _ => go_X9_lessThan_20 (by decide) (go_X9_lessThan_23 (by decide) (q _))⟩⟩)
/-- a cost tried out -/
theorem RI.cost {a : Nat} {v : Int32} {c : Nat} (R : RI h M) (G : GI h n k M) (ha : a < 14) (hc : c ≤ 198) (e : v + 99 = nI c) : RI (rp h a 3 v) M := R.of (Nat.le_refl _) (OF.wr (by omega)) ⟨n, k, G.cost hc e⟩ (R.2.1.w (by decide) (Or.inl (by decide)))
theorem c99 {j : Nat} : nI j - 99 + 99 = nI j := Int32.sub_add_cancel _ _
theorem c99n {j : Nat} (hj : j ≤ 198) : -(nI j - 99) + 99 = nI (198 - j) := by
  rw [Int32.neg_sub, show (99 : Int32) = nI 99 from rfl, Int32.sub_eq_add_neg, Int32.add_assoc, Int32.add_comm (-nI j), ← Int32.add_assoc, nI_add]
  exact nI_subneg (by omega)
theorem rq_spL {a : Nat} {x2 was : Int32} (ha : a < k) (hk : k ≤ 14) {cw : Nat} (hcw : cw ≤ 198) (ew : was + 99 = nI cw) {Q : tf_Q} (q : ∀ (x : Int32) (g : LH), RI g M → OF h g → Q (.int x) g) : ∀ (f j : Nat) (g : LH) (x4 : Int32) (x6 : Value), j + f = 199 → GI g n k M → RI g M → OF h g → lx_X9_span 298 (tf_Cd 298 (d + 5)) Q 40 [.ref 270, .int (nI a), .int x2, .int was, .int x4, .int (nI j - 99), x6] [] g
  | 0, j, g, x4, x6, hj, G, R, F => by
    have e : j = 199 := by omega
    subst e
    exact go_X9_span_40 (by decide) ⟨fun _ => go_X9_span_91 (by decide) (sx_puts (d := d + 4) a 3 _ rfl rfl (by omega) (by omega) _ (go_X9_span_98 (by decide) (q _ _ (R.cost G (by omega) hcw ew) (F.tr (OF.wr (by omega)))))), fun z => absurd (by decide) z⟩
  | f + 1, j, g, x4, x6, hj, G, R, F => by
    have e59 : ∀ (y : Int32) (c : Nat), c ≤ 198 → y + 99 = nI c → lx_X9_span 298 (tf_Cd 298 (d + 5)) Q 59 [.ref 270, .int (nI a), .int x2, .int was, .int x4, .int (nI j - 99), x6] [.int y] g := by
      intro y c hc ey
      refine go_X9_span_59 (by decide) (sx_puts (d := d + 4) a 3 _ rfl rfl (by omega) (by omega) _ (go_X9_span_69 (by decide) ?_))
      have G1 := G.cost (a := a) hc ey
      have R1 := R.cost (a := a) G (by omega) hc ey
      have F1 : OF h (rp g a 3 y) := F.tr (OF.wr (by omega))
      generalize rp g a 3 y = g1 at *
      have FL := lt_fl (h := g1) (n := n) (k := k)
      have e83 : ∀ y2 : Int32, lx_X9_span 298 (tf_Cd 298 (d + 5)) Q 83 [.ref 270, .int (nI a), .int x2, .int was, .int x4, .int (nI j - 99), .int y] [.int y2] (lt g1 n k) := fun y2 => go_X9_span_83 (by decide) (by rw [m99]; exact rq_spL ha hk hcw ew q f (j + 1) _ _ _ (by omega) (G1.fl FL) (R1.fl FL) (F1.tr FL.of))
      exact sx_best (d := d) G1 _ (go_X9_span_73 (by decide) ⟨fun _ => go_X9_span_81 (by decide) (e83 _), fun _ => e83 _⟩)
    exact go_X9_span_40 (by decide) ⟨fun z => absurd z (m99_lt (by omega)), fun _ => ⟨fun _ => go_X9_span_56 (by decide) (e59 _ _ (by omega) (c99n (by omega))), fun _ => e59 _ _ (show j ≤ 198 by omega) c99⟩⟩
theorem rq_span (R : RI h M) (x y : Int32) : RQ 94 [.int x, .int y] h M := by
  intro Q q
  obtain ⟨n, k, G, R1, F⟩ := R.p0
  refine en_X9_span (by decide) (go_X9_span_0 (by decide) ?_)
  show tf_Cd 298 10 _ _ (w1 h 270 0 0) _
  generalize w1 h 270 0 0 = h1 at *
  refine sx_risArc (d := 8) x _ (go_X9_span_10 (by decide) ⟨fun _ => go_X9_span_20 (by decide) (q _ _ ⟨⟨_, rfl⟩, R1, F⟩), fun c => ?_⟩)
  rw [bI_0, Bool.not_eq_false] at c
  obtain ⟨a, ha, ea⟩ := rf_arc_t G.1 c
  subst ea
  have hn := G.1.1
  have FL := lt_fl (h := h1) (n := n) (k := k)
  refine sx_best (d := 5) G _ (go_X9_span_17 (by decide) ⟨fun _ => go_X9_span_20 (by decide) (q _ _ ⟨⟨_, rfl⟩, R1.fl FL, F.tr FL.of⟩), fun _ => go_X9_span_24 (by decide) ?_⟩)
  have G2 := G.fl FL
  have R2 := R1.fl FL
  have F2 := F.tr FL.of
  generalize lt h1 n k = g at *
  obtain ⟨cw, hcw, ew⟩ := G2.2.2.2.2.1.2.2.1 a ha
  exact sx_of (d := 9) a 3 rfl rfl (by omega) (by omega) _ (go_X9_span_30 (by decide) (rq_spL (d := 5) (h := h) ha hn.2.2 hcw ew (fun x g r f => q _ _ ⟨⟨x, rfl⟩, r, f⟩) 199 0 g _ _ (by omega) G2 R2 F2))
end R87
