/-! ===== the class's pages and images, told more closely ===== -/
section PGX
variable {h g : LH} {d M : Nat}
/-- lay and work: the page is empty behind them -/
def CL (kn : Nat) (As : List Value) (h : LH) (N : Nat) : Prop := tf_Sp 11 kn (.ref 240 :: As) h (fun v g => (∃ x, v = .int x) ∧ CI g N ∧ CF h g ∧ g.1 269 = h.1 269 ∧ (∀ e, 253 ≤ e → e < 259 → g.1 e = h.1 e) ∧ g.1 251 1 = nI 0)
theorem cl_lay (X : CI h M) : CL 182 [] h M := by
  intro Q q
  obtain ⟨XAh, P⟩ := X
  obtain ⟨l, hl, el⟩ := (P 0 (by omega)).2
  have k36 : ∀ (g : LH) (c : Nat), FS h g → c ≤ 80 → g.1 259 0 = nI c → VB g c → (g.1 259 1 = 0 → AGr g c) → lx_X8_lay 298 (tf_Cd 298 10) Q 36 [.ref 240] [] g := by
    intro g c F hc e0 V z
    obtain ⟨L, L2, L3⟩ := tkf_lo (h := g)
    have P2 := tkf_pg (F.pg P)
    have s1 := sx_tkf (d := 9) (h := g)
    generalize tkf g = gt at L L2 L3 P2 s1
    have Lh : ∀ e, e ≠ 251 → ¬ (259 ≤ e ∧ e ≤ 264) → gt.1 e = h.1 e := fun e h1 h2 => (L e h1).trans (F.1 e h2)
    have XT : XA gt M := XAh.lo (fun e he => Lh e (by omega) (by omega))
    have CFt : CF h gt := ⟨fun e he => Lh e (by omega) (by omega), L2.trans F.2⟩
    refine go_X8_lay_36 (by decide) (s1 _ (go_X8_lay_40 (by decide) ⟨fun y => go_X8_lay_52 (by decide) ?_, fun _ => q _ gt ⟨⟨_, rfl⟩, ⟨XT, P2⟩, CFt, Lh 269 (by decide) (by decide), fun e h1 h2 => Lh e (by omega) (by omega), L3⟩⟩))
    rw [L 259 (by decide)] at y
    have A := (z y).same (L 260 (by decide)) (L 262 (by decide))
    have V2 : VB gt c := V.same (L 260 (by decide))
    have e2 : gt.1 259 0 = nI c := by rw [L 259 (by decide)]; exact e0
    obtain ⟨n, k, m, hm, H⟩ := XT.net
    refine sp_fi (d := 7) hc V2 A e2 H.1 _ (fun _ g3 p => go_X8_lay_63 (by decide) ?_)
    obtain ⟨n2, k2, N3⟩ := p
    have H3 : NT g3 0 n2 k2 m := ⟨N3.1, by rw [show (0 + 11 : Nat) = 11 from rfl, N3.2.1]; exact H.2.1, by rw [show (0 + 11 : Nat) = 11 from rfl, N3.2.1]; exact H.2.2⟩
    have s4 := sx_beg (d := 8) H3.1 0
    obtain ⟨H4, L4, B4⟩ := beg_ok H3 0
    generalize nt_beg g3 0 n2 k2 0 = g4 at s4 H4 L4 B4
    refine s4 _ (go_X8_lay_71 (by decide) (sx_tcl (d := 9) (t := 11) (by decide) _ (go_X8_lay_81 (by decide) ?_)))
    have L5 : ∀ e, e ≠ 11 → (nt_tcl g4 11).1 e = g4.1 e := fun e he => by unfold nt_tcl; rw [w1_ne he, w1_ne he, w1_ne he, w1_ne he]
    have H5 : NT (nt_tcl g4 11) 0 n2 k2 0 := by
      refine ⟨H4.1.keep (L5 _ (by decide)) (fun a _ => by rw [L5 _ (by decide)]) (fun a _ => by rw [L5 _ (by decide)]) (L5 _ (by decide)) (L5 _ (by decide)), ?_, 0, by omega, ?_⟩
      · show (nt_tcl g4 11).1 11 0 = nI 0
        unfold nt_tcl
        rw [w1_at (by decide), w1_at (by decide), w1_at (by decide), w1_eq]
        rfl
      · show (nt_tcl g4 11).1 11 3 + 1 = nI 0
        unfold nt_tcl
        rw [w1_eq]
        rfl
    have B5 : (nt_tcl g4 11).2 = g4.2 := rfl
    generalize nt_tcl g4 11 = g5 at H5 L5 B5
    have L6 : ∀ e, ¬ e < 15 → g5.1 e = gt.1 e := fun e he => by rw [L5 e (by omega), L4 e (by omega), N3.2.2.1 e (by omega)]
    have X5 : XA g5 M := act_ok XT (Nat.zero_le _) H5 L6
    have X6 : XA (w1 g5 240 9 0) M := by
      obtain ⟨x1, ⟨c5, r1, r2, r3⟩, x3, x4⟩ := X5
      refine ⟨x1.hi (by decide), ⟨c5, by rw [w1_ne (by decide)]; exact r1, r2, fun i hi => by rw [w1_ne (by decide)]; exact r3 i hi⟩, by rw [w1_at (by decide)]; exact x3, ?_⟩
      rw [w1_eq]
      exact vi_of (j := 0) (by decide) (by decide)
    refine q _ (w1 g5 240 9 0) ⟨⟨_, rfl⟩, ⟨X6, P2.same (fun e h1 h2 => by rw [w1_ne (by omega), L6 e (by omega)])⟩, ⟨fun e he => ?_, ?_⟩, by rw [w1_ne (by decide), L6 269 (by decide)]; exact Lh 269 (by decide) (by decide), fun e h1 h2 => by rw [w1_ne (by omega), L6 e (by omega)]; exact Lh e (by omega) (by omega), by rw [w1_ne (by decide), L6 251 (by decide)]; exact L3⟩
    · rw [w1_ne (by omega), L6 e (by omega)]
      exact CFt.1 e he
    · show g5.2 = h.2
      rw [B5, B4, N3.2.2.2]
      exact CFt.2
  refine en_X8_lay (by decide) (go_X8_lay_0 (by decide) (sp_rd (d := 3) hl el 0 _ (fun _ g1 p1 => ?_)))
  obtain ⟨F1, c, hc, e0, V⟩ := p1
  refine go_X8_lay_12 (by decide) ⟨fun z => sp_cg (d := 6) hc V e0 _ _ (fun _ g2 p2 => ?_), fun z => k36 g1 c F1 hc e0 V (fun y => absurd y z)⟩
  exact k36 g2 c (F1.tr p2.1.fs) hc ((p2.1.2.2 0 (by decide) (by decide)).trans e0) (V.same (p2.1.1 260 (by decide) (by decide))) (fun y => (p2.2 y).same (p2.1.1 260 (by decide) (by decide)) (p2.1.1 262 (by decide) (by decide)))
theorem cl_work (X : CI h M) (hM : M < 1800000000) : CL 192 [] h (M + 4800) := by
  intro Q q
  obtain ⟨XAh, P⟩ := X
  obtain ⟨l, hl, el⟩ := (P 0 (by omega)).2
  have k29 : ∀ (g : LH) (c : Nat), FS h g → c ≤ 80 → g.1 259 0 = nI c → VB g c → (g.1 259 1 = 0 → OGr g c) → lx_X8_work 298 (tf_Cd 298 10) Q 29 [.ref 240, tf_z] [] g := by
    intro g c F hc e0 V z
    obtain ⟨L, L2, L3⟩ := tkf_lo (h := g)
    have P2 := tkf_pg (F.pg P)
    have s1 := sx_tkf (d := 9) (h := g)
    generalize tkf g = gt at L L2 L3 P2 s1
    have Lh : ∀ e, e ≠ 251 → ¬ (259 ≤ e ∧ e ≤ 264) → gt.1 e = h.1 e := fun e h1 h2 => (L e h1).trans (F.1 e h2)
    have XT : XA gt M := XAh.lo (fun e he => Lh e (by omega) (by omega))
    have CFt : CF h gt := ⟨fun e he => Lh e (by omega) (by omega), L2.trans F.2⟩
    refine go_X8_work_29 (by decide) (s1 _ (go_X8_work_33 (by decide) ⟨fun y => ?_, fun _ => q _ gt ⟨⟨_, rfl⟩, ⟨XT.mono (by omega), P2⟩, CFt, Lh 269 (by decide) (by decide), fun e h1 h2 => Lh e (by omega) (by omega), L3⟩⟩))
    rw [L 259 (by decide)] at y
    obtain ⟨X1, F1, -⟩ := sv_ok XT
    have s2 := sx_sv (d := 7) XT
    generalize ac_sv gt = h1 at X1 F1 s2
    have e1 : h1.1 259 0 = nI c := by rw [F1.1 259 (by decide), L 259 (by decide)]; exact e0
    have V1 : VB h1 c := V.same ((F1.1 260 (by decide)).trans (L 260 (by decide)))
    have O1 : OGr h1 c := fun line hl2 v9 => by
      have a := z y line hl2
      unfold vbn at a v9
      unfold nb at a ⊢
      rw [F1.1 260 (by decide), L 260 (by decide)] at v9
      rw [F1.1 262 (by decide), L 262 (by decide)]
      exact a v9
    refine go_X8_work_45 (by decide) (s2 _ (go_X8_work_49 (by decide) (wk_L hM hc e1 V1 O1 (fun x g2 X2 F2 => ?_) c 0 h1 (by omega) (X1.mono (by omega)) Fr.rf)))
    have k97 : ∀ b : Bool, lx_X8_work 298 (tf_Cd 298 10) Q 97 [.ref 240, .int x] [.int (bI b), .ref 240] g2 := by
      intro b
      obtain ⟨X3, F3, -⟩ := ca_ok X2 (bI b)
      have LT : ∀ e, 244 ≤ e → e ≠ 251 → ¬ (259 ≤ e ∧ e ≤ 264) → (ac_ca g2 (bI b)).1 e = h.1 e := fun e h0 h1 h2 => by rw [F3.1 e h0, F2.1 e h0, F1.1 e h0]; exact Lh e h1 h2
      refine go_X8_work_97 (by decide) (sx_ca (d := 9) b _ (go_X8_work_100 (by decide) (q _ _ ⟨⟨_, rfl⟩, ⟨X3, P2.same (fun e h1 h2 => ?_)⟩, ⟨fun e he => ?_, ?_⟩, LT 269 (by decide) (by decide) (by decide), fun e h1 h2 => LT e (by omega) (by omega) (by omega), by rw [F3.1 251 (by decide), F2.1 251 (by decide), F1.1 251 (by decide)]; exact L3⟩)))
      · rw [F3.1 e (by omega), F2.1 e (by omega), F1.1 e (by omega)]
      · rw [F3.1 e (by omega), F2.1 e (by omega), F1.1 e (by omega)]
        exact CFt.1 e he
      · rw [F3.2, F2.2, F1.2]
        exact CFt.2
    exact go_X8_work_87 (by decide) ⟨fun _ => go_X8_work_96 (by decide) (k97 false), fun _ => k97 true⟩
  refine en_X8_work (by decide) (go_X8_work_0 (by decide) (sp_rd (d := 3) hl el 1 _ (fun _ g1 p1 => ?_)))
  obtain ⟨F1, c, hc, e0, V⟩ := p1
  refine go_X8_work_12 (by decide) ⟨fun z => sp_co (d := 7) hc V e0 _ (fun _ g2 p2 => ?_), fun z => k29 g1 c F1 hc e0 V (fun y => absurd y z)⟩
  exact k29 g2 c (F1.tr p2.1.fs) hc (p2.1.ct e0) (p2.1.vb V) (fun y line hl v9 => by
    have a := p2.2 y line hl
    rw [p2.1.vbE] at v9
    rw [p2.1.nbE]
    exact a v9)
theorem pg_cp_len {i j : Nat} : (pg_cp h (251 + 2 * i) (251 + 2 * j)).1 (251 + 2 * i) 1 = h.1 (251 + 2 * j) 1 := by
  unfold pg_cp pg_f
  rw [w1_at (by decide), w1_at (by decide), w1_eq, cpH_ne (by omega)]
theorem pg_cp_ne {i j e : Nat} (h1 : e ≠ 251 + 2 * i) (h2 : e ≠ 251 + 2 * i + 1) : (pg_cp h (251 + 2 * i) (251 + 2 * j)).1 e = h.1 e := by
  unfold pg_cp
  rw [pg_f_lo h1, cpH_ne h2]
theorem rf_in3 {x : Int32} (c1 : ¬ x < 0) : rf_in x 0 2 = !decide ((3 : Int32) ≤ x) := by
  have e : (2 : Int32) < x ↔ (3 : Int32) ≤ x := by
    rw [Int32.lt_iff_toInt_lt, Int32.le_iff_toInt_le]
    have a : (2 : Int32).toInt = 2 := by decide
    have b : (3 : Int32).toInt = 3 := by decide
    omega
  simp only [rf_in, e]
  simp [c1]
theorem pv_image (X : CI h M) (x : Int32) : ∃ (g : LH), tf_Rt 11 211 [.ref 240, .int x] h (.int (bI (rf_in x 0 2))) g ∧ CI g M ∧ CF h g ∧ (rf_in x 0 2 = false → g = h) ∧ (∀ j, j < 3 → x = nI j → (∀ i, g.1 269 i = if i = j then 1 else h.1 269 i) ∧ g.1 251 1 = h.1 251 1 ∧ g.1 (253 + 2 * j) 1 = h.1 251 1 ∧ ∀ i, i < 3 → i ≠ j → g.1 (253 + 2 * i) 1 = h.1 (253 + 2 * i) 1) := by
  by_cases c1 : x < 0
  · have e0 : rf_in x 0 2 = false := by simp [rf_in, c1]
    rw [e0]
    exact ⟨h, fun Q q => en_X8_image (by decide) (go_X8_image_0 (by decide) ⟨fun _ => go_X8_image_9 (by decide) q, fun z => absurd c1 z⟩), X, CF.rf, fun _ => rfl, fun j hj ej => absurd (ej ▸ c1) (nI_pos (by omega))⟩
  · rw [rf_in3 c1]
    by_cases c2 : x < 3
    · have hx : vp_in x 3 := vi_3 c1 (Int32.not_le.mpr c2)
      obtain ⟨j, hj, ej⟩ := vi_nI hx
      have hcl : x.toNatClampNeg = j := by rw [ej]; exact nI_clamp (by omega)
      have e0 : (!decide ((3 : Int32) ≤ x)) = true := by simp [Int32.not_le.mpr c2]
      rw [e0]
      obtain ⟨n, k, m, hm, H⟩ := X.1.net
      have s1 := sx_ncp (d := 8) (h := h) (b := 15 * (j + 13)) (c := 0) (tf_K15 (r := j + 13) (by omega)) (by decide +kernel) (by omega)
      have C := nt_cp_ok (h := h) (b := 15 * (j + 13)) (c := 0) (tf_K15 (r := j + 13) (by omega)) (by decide +kernel) (by omega)
      generalize nt_cp h (15 * (j + 13)) 0 = g1 at s1 C
      have X1 : XA g1 M := X.1.put (r0 := j + 13) (by omega) hm (C.nt (tf_K15 (r := j + 13) (by omega)) H) C.1
      have P1 : PGS g1 := X.2.same (fun e h1 h2 => C.1 e (by omega))
      have s2 := sx_pcp (d := 9) (i := j + 1) (j := 0) (by omega) (by omega) P1
      obtain ⟨P2, L2, E2⟩ := pg_cp_ok (i := j + 1) (j := 0) (by omega) (by omega) P1
      have N2 := pg_cp_len (h := g1) (i := j + 1) (j := 0)
      have O2 : ∀ e, e ≠ 251 + 2 * (j + 1) → e ≠ 251 + 2 * (j + 1) + 1 → (pg_cp g1 (251 + 2 * (j + 1)) (251 + 2 * 0)).1 e = g1.1 e := fun e h1 h2 => pg_cp_ne h1 h2
      generalize pg_cp g1 (251 + 2 * (j + 1)) (251 + 2 * 0) = g2 at s2 P2 L2 E2 N2 O2
      have X2 : XA g2 M := by
        obtain ⟨c0, R⟩ := X1.2.1
        exact X1.look (fun e he => L2 e (by omega)) (L2 240 (by decide)) (R.same (L2 241 (by decide)) (L2 242 (by decide)))
      refine ⟨w1 g2 269 j (vp_nar .boolean 1), fun Q q => en_X8_image (by decide) (go_X8_image_0 (by decide) ⟨fun z => absurd z c1, fun _ => ⟨fun _ => go_X8_image_11 (by decide) ⟨hx, ?_⟩, fun z => absurd c2 z⟩⟩), ⟨X2.hi (by decide), P2.same (fun e h1 h2 => w1_ne (by omega))⟩, ⟨fun e he => by rw [w1_ne (by omega), L2 e (by omega), C.1 e (by omega)], by show g2.2 = h.2; rw [E2, C.2.1]⟩, fun z => absurd z (by decide), fun j2 hj2 ej2 => ?_⟩
      · rw [hcl, tf_R267 j hj]
        refine s1 _ (go_X8_image_24 (by decide) ⟨hx, ?_⟩)
        rw [hcl, pg_R j hj]
        have e3 : 253 + 2 * j = 251 + 2 * (j + 1) := by omega
        rw [e3]
        refine s2 _ (go_X8_image_37 (by decide) ⟨hx, ?_⟩)
        rw [hcl]
        exact q
      · have ejj : j2 = j := by
          rw [ej2, nI_clamp (by omega)] at hcl
          exact hcl
        subst ejj
        have e9 : vp_nar .boolean 1 = 1 := by decide
        refine ⟨fun i => ?_, ?_, ?_, fun i hi hne => ?_⟩
        · by_cases ij : i = j2
          · rw [if_pos ij, ij, w1_eq]
            exact e9
          · rw [if_neg ij, w1_at ij, O2 269 (by omega) (by omega), C.1 269 (by omega)]
        · rw [w1_ne (by omega), O2 251 (by omega) (by omega), C.1 251 (by omega)]
        · have e3 : 253 + 2 * j2 = 251 + 2 * (j2 + 1) := by omega
          rw [e3, w1_ne (by omega), N2, C.1 (251 + 2 * 0) (by omega)]
        · rw [w1_ne (by omega), O2 _ (by omega) (by omega), C.1 _ (by omega)]
    · have e0 : (!decide ((3 : Int32) ≤ x)) = false := by simp [Int32.not_lt.mp c2]
      rw [e0]
      refine ⟨h, fun Q q => en_X8_image (by decide) (go_X8_image_0 (by decide) ⟨fun z => absurd z c1, fun _ => ⟨fun z => absurd z c2, fun _ => go_X8_image_9 (by decide) q⟩⟩), X, CF.rf, fun _ => rfl, fun j hj ej => ?_⟩
      exfalso
      rw [ej] at c2
      exact c2 (nI_lt (a := j) (b := 3) (by omega) (by omega))
theorem pv_again (X : CI h M) (x : Int32) : ∃ (g : LH), tf_Rt 11 212 [.ref 240, .int x] h (.int (bI (qv_img h x))) g ∧ CI g M ∧ CF h g ∧ g.1 269 = h.1 269 ∧ (qv_img h x = false → g = h) ∧ (∀ j, j < 3 → x = nI j → h.1 269 j ≠ 0 → g.1 251 1 = h.1 (253 + 2 * j) 1) ∧ ∀ i, i < 3 → g.1 (253 + 2 * i) 1 = h.1 (253 + 2 * i) 1 := by
  have s0 := sx_hasImg (h := h) (d := 9) x
  by_cases c : qv_img h x = true
  · have hx := img_in c
    obtain ⟨j, hj, ej⟩ := vi_nI hx
    have hcl : x.toNatClampNeg = j := by rw [ej]; exact nI_clamp (by omega)
    obtain ⟨n, k, m, hm, H⟩ := X.1.1 (j + 13) (by omega)
    have s1 := sx_ncp (d := 8) (h := h) (b := 0) (c := 15 * (j + 13)) (by decide +kernel) (tf_K15 (r := j + 13) (by omega)) (by omega)
    have C := nt_cp_ok (h := h) (b := 0) (c := 15 * (j + 13)) (by decide +kernel) (tf_K15 (r := j + 13) (by omega)) (by omega)
    generalize nt_cp h 0 (15 * (j + 13)) = g1 at s1 C
    have X1 : XA g1 M := X.1.put (r0 := 0) (by omega) hm (C.nt (by decide +kernel) H) (fun e he => C.1 e (by omega))
    have P1 : PGS g1 := X.2.same (fun e h1 h2 => C.1 e (by omega))
    have s2 := sx_pcp (d := 9) (i := 0) (j := j + 1) (by omega) (by omega) P1
    obtain ⟨P2, L2, E2⟩ := pg_cp_ok (i := 0) (j := j + 1) (by omega) (by omega) P1
    have N2 := pg_cp_len (h := g1) (i := 0) (j := j + 1)
    have O2 : ∀ e, e ≠ 251 + 2 * 0 → e ≠ 251 + 2 * 0 + 1 → (pg_cp g1 (251 + 2 * 0) (251 + 2 * (j + 1))).1 e = g1.1 e := fun e h1 h2 => pg_cp_ne h1 h2
    generalize pg_cp g1 (251 + 2 * 0) (251 + 2 * (j + 1)) = g2 at s2 P2 L2 E2 N2 O2
    have X2 : XA g2 M := by
      obtain ⟨c0, R⟩ := X1.2.1
      exact X1.look (fun e he => L2 e (by omega)) (L2 240 (by decide)) (R.same (L2 241 (by decide)) (L2 242 (by decide)))
    have X3 : XA (w1 g2 240 9 0) M := by
      obtain ⟨x1, ⟨c0, R⟩, x3, x4⟩ := X2
      exact ⟨x1.hi (by decide), ⟨c0, R.same (w1_ne (by decide)) (w1_ne (by decide))⟩, by rw [w1_at (by decide)]; exact x3, by rw [w1_eq]; exact vi_of (j := 0) (m := 11) (by omega) (by omega)⟩
    rw [c]
    refine ⟨w1 g2 240 9 0, fun Q q => en_X8_again (by decide) (go_X8_again_0 (by decide) (s0 _ (go_X8_again_5 (by decide) ⟨fun z => ?_, fun _ => go_X8_again_10 (by decide) ⟨hx, ?_⟩⟩))), ⟨X3, P2.same (fun e h1 h2 => w1_ne (by omega))⟩, ⟨fun e he => by rw [w1_ne (by omega), L2 e (by omega), C.1 e (by omega)], by show g2.2 = h.2; rw [E2, C.2.1]⟩, by rw [w1_ne (by decide), O2 269 (by omega) (by omega), C.1 269 (by omega)], fun z => absurd z (by decide), fun j2 hj2 ej2 _ => ?_, fun i hi => by rw [w1_ne (by omega), O2 _ (by omega) (by omega), C.1 _ (by omega)]⟩
    · rw [bI_0, c] at z
      exact absurd z (by decide)
    · rw [hcl, tf_R267 j hj]
      refine s1 _ (go_X8_again_23 (by decide) ⟨hx, ?_⟩)
      rw [hcl, pg_R j hj]
      have e3 : 253 + 2 * j = 251 + 2 * (j + 1) := by omega
      rw [e3]
      exact s2 _ (go_X8_again_36 (by decide) q)
    · have ejj : j2 = j := by
        rw [ej2, nI_clamp (by omega)] at hcl
        exact hcl
      subst ejj
      have e3 : 253 + 2 * j2 = 251 + 2 * (j2 + 1) := by omega
      rw [e3, w1_ne (by decide)]
      show g2.1 (251 + 2 * 0) 1 = _
      rw [N2, C.1 _ (by omega)]
  · have cf : qv_img h x = false := Bool.eq_false_iff.mpr c
    rw [cf]
    refine ⟨h, fun Q q => en_X8_again (by decide) (go_X8_again_0 (by decide) (s0 _ (go_X8_again_5 (by decide) ⟨fun _ => q, fun z => absurd (by rw [bI_0]; exact cf) z⟩))), X, CF.rf, rfl, fun _ => rfl, fun j hj ej hne => ?_, fun i hi => rfl⟩
    exfalso
    apply c
    rw [ej]
    have c1 : ¬ nI j < 0 := nI_pos (by omega)
    have c2 : ¬ (3 : Int32) ≤ nI j := nI_ge (a := j) (b := 3) (by omega) (by omega)
    simp [qv_img, c1, c2, nI_clamp (show j < 2147483648 by omega), hne]
end PGX
