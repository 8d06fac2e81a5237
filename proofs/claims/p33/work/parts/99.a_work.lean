/-! ===== the class: lay, work ===== -/
section SC6
variable {h g : LH} {d M : Nat}
theorem XA.lo (X : XA h M) (L : ∀ e, e < 244 → g.1 e = h.1 e) : XA g M := by
  obtain ⟨c, R⟩ := X.2.1
  refine X.look (fun e he => L e (by omega)) (L 240 (by decide)) (c := c) ?_
  obtain ⟨r1, r2, r3⟩ := R
  exact ⟨by rw [L 241 (by decide)]; exact r1, r2, fun i hi => by rw [L 242 (by decide)]; exact r3 i hi⟩
theorem sp_ob {c line : Nat} (X : XA h M) (hM : M < 1900000000) (hc : c ≤ 80) (hl : line < c) (V : VB h c) (O : OGr h c) : tf_Sp (d + 6) 241 [.ref 259, .int (nI line), .ref 0, .ref 241] h (fun v g => (∃ b, v = .int (bI b)) ∧ XA g (M + 60) ∧ Fr h g) := by
  intro Q q
  have e : (nI line).toNatClampNeg = line := nI_clamp (by omega)
  have vv : vp_in (h.1 260 (nI line).toNatClampNeg) 15 := by rw [e]; exact V line hl
  have ev : (h.1 260 (nI line).toNatClampNeg).toNatClampNeg = vbn h line := by rw [e]; rfl
  have v15 : vbn h line < 15 := by rw [← ev]; exact tv_lt vv
  have cv : (nI (vbn h line)).toNatClampNeg = vbn h line := nI_clamp (by omega)
  have l80 : line < 80 := by omega
  have s9 := (tv_s9 (vbn h line) v15).1
  have k228 : lx_X4_obey (d + 5) (tf_Cd 298 (d + 5)) Q 228 [.ref 259, .int (nI line), .ref 0, .ref 241] [] h := go_X4_obey_228 k000 (q _ h ⟨⟨false, rfl⟩, X.mono (by omega), Fr.rf⟩)
  have fin : ∀ (v : Value) (g : LH), ((∃ b, v = .int (bI b)) ∧ XA g M ∧ Fr h g) → ∃ b, v = .int (bI b) ∧ vp_nar .boolean (bI b) = bI b ∧ Q (.int (bI b)) g := by
    rintro v g ⟨⟨b, rfl⟩, X2, F2⟩
    exact ⟨b, rfl, bI_nar b, q _ g ⟨⟨b, rfl⟩, X2.mono (by omega), F2⟩⟩
  have n0 := sx_nb (d := d + 4) (h := h) (line := line) (i := 0) (y := 0) l80 (by decide) rfl
  have n1 := sx_nb (d := d + 4) (h := h) (line := line) (i := 1) (y := 1) l80 (by decide) rfl
  have n2 := sx_nb (d := d + 4) (h := h) (line := line) (i := 2) (y := 2) l80 (by decide) rfl
  refine en_X4_obey k000 (go_X4_obey_0 k000 ⟨⟨vi_of l80 (by omega), vv⟩, ?_⟩)
  rw [ev]
  refine go_X4_obey_12 k000 ?_
  rw [cv]
  refine ⟨vi_of v15 (by omega), fun _ => k228, fun _ => ?_, fun _ => k228, fun _ => k228, fun _ => ?_, fun c7 => ?_, fun _ => ?_, fun _ => ?_, fun _ => ?_, fun _ => ?_, fun _ => ?_, fun _ => ?_, fun _ => ?_, fun _ => ?_, trivial⟩
  · refine go_X4_obey_185 k000 (n0 _ (go_X4_obey_192 k000 k000 (n1 _ (go_X4_obey_198 k000 k000 (ac_cost (d := d + 3) X _ _ _ (fun v g p => ?_))))))
    obtain ⟨b, rfl, hb, hq⟩ := fin v g p
    exact go_X4_obey_202 k000 ⟨hb, hq⟩
  · refine go_X4_obey_127 k000 (n0 _ (go_X4_obey_134 k000 k000 (ac_open (d := d + 2) X _ _ _ (fun v g p => ?_))))
    obtain ⟨b, rfl, hb, hq⟩ := fin v g p
    exact go_X4_obey_138 k000 ⟨hb, hq⟩
  · obtain ⟨m, m1, m60, em⟩ := O line hl (s9 c7)
    refine go_X4_obey_80 k000 (n0 _ (go_X4_obey_92 k000 k000 ?_))
    rw [em]
    refine ac_run (d := d) X hM m60 _ _ (fun v g p => ?_)
    obtain ⟨⟨x, rfl⟩, X2, F2⟩ := p
    exact go_X4_obey_95 k000 ⟨fun _ => go_X4_obey_102 k000 (go_X4_obey_103 k000 ⟨rfl, q _ g ⟨⟨false, rfl⟩, X2, F2⟩⟩), fun _ => go_X4_obey_103 k000 ⟨rfl, q _ g ⟨⟨true, rfl⟩, X2, F2⟩⟩⟩
  · refine go_X4_obey_104 k000 (n0 _ (go_X4_obey_111 k000 k000 (n1 _ (go_X4_obey_117 k000 k000 (n2 _ (go_X4_obey_123 k000 k000 (ac_move (d := d + 2) X _ _ _ _ (fun v g p => ?_))))))))
    obtain ⟨b, rfl, hb, hq⟩ := fin v g p
    exact go_X4_obey_126 k000 ⟨hb, hq⟩
  · refine go_X4_obey_139 k000 (n0 _ (go_X4_obey_146 k000 k000 (ac_open (d := d + 2) X _ _ _ (fun v g p => ?_))))
    obtain ⟨b, rfl, hb, hq⟩ := fin v g p
    exact go_X4_obey_150 k000 ⟨hb, hq⟩
  · refine go_X4_obey_151 k000 (n0 _ (go_X4_obey_158 k000 k000 (n1 _ (go_X4_obey_164 k000 k000 (ac_bound (d := d + 2) X _ _ _ (fun v g p => ?_))))))
    obtain ⟨b, rfl, hb, hq⟩ := fin v g p
    exact go_X4_obey_167 k000 ⟨hb, hq⟩
  · refine go_X4_obey_168 k000 (n0 _ (go_X4_obey_175 k000 k000 (n1 _ (go_X4_obey_181 k000 k000 (ac_cost (d := d + 3) X _ _ _ (fun v g p => ?_))))))
    obtain ⟨b, rfl, hb, hq⟩ := fin v g p
    exact go_X4_obey_184 k000 ⟨hb, hq⟩
  · refine go_X4_obey_210 k000 (ac_rule (d := d + 3) X _ _ (fun v g p => ?_))
    obtain ⟨b, rfl, hb, hq⟩ := fin v g p
    exact go_X4_obey_215 k000 ⟨hb, hq⟩
  · refine go_X4_obey_216 k000 (ac_rule (d := d + 3) X _ _ (fun v g p => ?_))
    obtain ⟨b, rfl, hb, hq⟩ := fin v g p
    exact go_X4_obey_221 k000 ⟨hb, hq⟩
  · refine go_X4_obey_222 k000 (ac_rule (d := d + 3) X _ _ (fun v g p => ?_))
    obtain ⟨b, rfl, hb, hq⟩ := fin v g p
    exact go_X4_obey_227 k000 ⟨hb, hq⟩
  · refine go_X4_obey_203 k000 (ac_beg (d := d + 3) X _ (fun v g p => go_X4_obey_208 k000 (q _ g ⟨⟨true, rfl⟩, p.1.mono (by omega), p.2⟩)))
/-- the class's public method returns, and the class stays as it should -/
def CS (kn : Nat) (As : List Value) (h : LH) (N : Nat) : Prop := tf_Sp 11 kn (.ref 240 :: As) h (fun v g => (∃ x, v = .int x) ∧ CI g N ∧ CF h g)
theorem CC.cs {kn N : Nat} {As : List Value} (c : CC kn As h N) : CS kn As h N := by
  obtain ⟨v, g, r, C, F⟩ := c
  exact r.sp ⟨⟨v, rfl⟩, C, F⟩
def tkf (h : LH) : LH := w1 (w1 (w1 h 251 1 0) 251 2 ((w1 h 251 1 0).1 259 1)) 251 3 ((w1 (w1 h 251 1 0) 251 2 ((w1 h 251 1 0).1 259 1)).1 259 2)
theorem sx_tkf : tf_Rt (d + 1) 214 [.ref 240] h tf_z (tkf h) := fun Q q => en_X8_takeFault (by decide) (go_X8_takeFault_0 (by decide) q)
theorem tkf_lo : (∀ e, e ≠ 251 → (tkf h).1 e = h.1 e) ∧ (tkf h).2 = h.2 ∧ (tkf h).1 251 1 = nI 0 := ⟨fun e he => by unfold tkf; rw [w1_ne he, w1_ne he, w1_ne he], rfl, by unfold tkf; rw [w1_at (by decide), w1_at (by decide), w1_eq]; rfl⟩
theorem tkf_pg (P : PGS h) : PGS (tkf h) := by
  intro i hi
  have L := (tkf_lo (h := h)).1
  by_cases h0 : i = 0
  · subst h0
    refine ⟨fun j hj => ?_, 0, by omega, (tkf_lo (h := h)).2.2⟩
    have := (P 0 (by omega)).1 j hj
    rw [L _ (by decide)]
    exact this
  · exact (P i hi).same (L _ (by omega)) (L _ (by omega))
theorem FS.pg (F : FS h g) (P : PGS h) : PGS g := P.same (fun e h1 h2 => F.1 e (by omega))
theorem cs_lay (X : CI h M) : CS 182 [] h M := by
  intro Q q
  obtain ⟨XAh, P⟩ := X
  obtain ⟨l, hl, el⟩ := (P 0 (by omega)).2
  have k36 : ∀ (g : LH) (c : Nat), FS h g → c ≤ 80 → g.1 259 0 = nI c → VB g c → (g.1 259 1 = 0 → AGr g c) → lx_X8_lay 298 (tf_Cd 298 10) Q 36 [.ref 240] [] g := by
    intro g c F hc e0 V z
    obtain ⟨L, L2, -⟩ := tkf_lo (h := g)
    have P2 := tkf_pg (F.pg P)
    have s1 := sx_tkf (d := 9) (h := g)
    generalize tkf g = gt at L L2 P2 s1
    have Lh : ∀ e, e ≠ 251 → ¬ (259 ≤ e ∧ e ≤ 264) → gt.1 e = h.1 e := fun e h1 h2 => (L e h1).trans (F.1 e h2)
    have XT : XA gt M := XAh.lo (fun e he => Lh e (by omega) (by omega))
    have CFt : CF h gt := ⟨fun e he => Lh e (by omega) (by omega), L2.trans F.2⟩
    refine go_X8_lay_36 (by decide) (s1 _ (go_X8_lay_40 (by decide) ⟨fun y => go_X8_lay_52 (by decide) ?_, fun _ => q _ gt ⟨⟨_, rfl⟩, ⟨XT, P2⟩, CFt⟩⟩))
    rw [L 259 (by decide)] at y
    have A := (z y).same (L 260 (by decide)) (L 262 (by decide))
    have V2 : VB gt c := V.same (L 260 (by decide))
    have e2 : gt.1 259 0 = nI c := by rw [L 259 (by decide)]; exact e0
    obtain ⟨n, k, m, hm, H⟩ := XT.net
    refine sp_fi (d := 7) hc V2 A e2 H.1 _ (fun _ g3 p => go_X8_lay_63 (by decide) ?_)
    obtain ⟨n2, k2, N3⟩ := p
    have H3 : NT g3 0 n2 k2 m := ⟨N3.1, by rw [show (0 + 11 : Nat) = 11 from rfl, N3.2.1]; exact H.2.1, by rw [show (0 + 11 : Nat) = 11 from rfl, N3.2.1]; exact H.2.2⟩
    have s4 := sx_beg (d := 8) H3.1 0
    obtain ⟨H4, L4, B4⟩ := beg_ok H3 0
    generalize nt_beg g3 0 n2 k2 0 = g4 at s4 H4 L4 B4
    refine s4 _ (go_X8_lay_71 (by decide) (sx_tcl (d := 9) (t := 11) (by decide) _ (go_X8_lay_81 (by decide) ?_)))
    have L5 : ∀ e, e ≠ 11 → (nt_tcl g4 11).1 e = g4.1 e := fun e he => by unfold nt_tcl; rw [w1_ne he, w1_ne he, w1_ne he, w1_ne he]
    have H5 : NT (nt_tcl g4 11) 0 n2 k2 0 := by
      refine ⟨H4.1.keep (L5 _ (by decide)) (fun a _ => by rw [L5 _ (by decide)]) (fun a _ => by rw [L5 _ (by decide)]) (L5 _ (by decide)) (L5 _ (by decide)), ?_, 0, by omega, ?_⟩
      · show (nt_tcl g4 11).1 11 0 = nI 0
        unfold nt_tcl
        rw [w1_at (by decide), w1_at (by decide), w1_at (by decide), w1_eq]
        rfl
      · show (nt_tcl g4 11).1 11 3 + 1 = nI 0
        unfold nt_tcl
        rw [w1_eq]
        rfl
    have B5 : (nt_tcl g4 11).2 = g4.2 := rfl
    generalize nt_tcl g4 11 = g5 at H5 L5 B5
    have L6 : ∀ e, ¬ e < 15 → g5.1 e = gt.1 e := fun e he => by rw [L5 e (by omega), L4 e (by omega), N3.2.2.1 e (by omega)]
    have X5 : XA g5 M := act_ok XT (Nat.zero_le _) H5 L6
    have X6 : XA (w1 g5 240 9 0) M := by
      obtain ⟨x1, ⟨c5, r1, r2, r3⟩, x3, x4⟩ := X5
      refine ⟨x1.hi (by decide), ⟨c5, by rw [w1_ne (by decide)]; exact r1, r2, fun i hi => by rw [w1_ne (by decide)]; exact r3 i hi⟩, by rw [w1_at (by decide)]; exact x3, ?_⟩
      rw [w1_eq]
      exact vi_of (j := 0) (by decide) (by decide)
    refine q _ (w1 g5 240 9 0) ⟨⟨_, rfl⟩, ⟨X6, P2.same (fun e h1 h2 => by rw [w1_ne (by omega), L6 e (by omega)])⟩, fun e he => ?_, ?_⟩
    · rw [w1_ne (by omega), L6 e (by omega)]
      exact CFt.1 e he
    · show g5.2 = h.2
      rw [B5, B4, N3.2.2.2]
      exact CFt.2
  refine en_X8_lay (by decide) (go_X8_lay_0 (by decide) (sp_rd (d := 3) hl el 0 _ (fun _ g1 p1 => ?_)))
  obtain ⟨F1, c, hc, e0, V⟩ := p1
  refine go_X8_lay_12 (by decide) ⟨fun z => sp_cg (d := 6) hc V e0 _ _ (fun _ g2 p2 => ?_), fun z => k36 g1 c F1 hc e0 V (fun y => absurd y z)⟩
  exact k36 g2 c (F1.tr p2.1.fs) hc ((p2.1.2.2 0 (by decide) (by decide)).trans e0) (V.same (p2.1.1 260 (by decide) (by decide))) (fun y => (p2.2 y).same (p2.1.1 260 (by decide) (by decide)) (p2.1.1 262 (by decide) (by decide)))
theorem wk_L {c : Nat} (hM : M < 1800000000) (hc : c ≤ 80) (e0 : h.1 259 0 = nI c) (V : VB h c) (O : OGr h c) {Q : tf_Q} (q : ∀ (x : Int32) (g : LH), XA g (M + 4800) → Fr h g → lx_X8_work 298 (tf_Cd 298 10) Q 87 [.ref 240, .int x] [] g) : ∀ (f i : Nat) (g : LH), i + f = c → XA g (M + 60 * i) → Fr h g → lx_X8_work 298 (tf_Cd 298 10) Q 51 [.ref 240, .int (nI i)] [] g
  | 0, i, g, hf, X, F => go_X8_work_51 (by decide) ⟨fun _ => q _ g (X.mono (by omega)) F, fun c1 => absurd (by rw [F.1 259 (by decide), e0]; exact nI_le (by omega) (by omega)) c1⟩
  | f + 1, i, g, hf, X, F => by
    have V2 : VB g c := V.same (F.1 260 (by decide))
    have O2 : OGr g c := fun line hl v9 => by
      have a := O line hl
      unfold vbn at a v9
      unfold nb at a ⊢
      rw [F.1 260 (by decide)] at v9
      rw [F.1 262 (by decide)]
      exact a v9
    refine go_X8_work_51 (by decide) ⟨fun c1 => absurd (by rw [F.1 259 (by decide), e0] at c1; exact c1) (nI_ge (by omega) (by omega)), fun _ => sp_ob (d := 4) X (by omega) hc (by omega) V2 O2 _ (fun v g2 p => ?_)⟩
    obtain ⟨⟨b, rfl⟩, X2, F2⟩ := p
    refine go_X8_work_78 (by decide) ⟨fun _ => q _ g2 (X2.mono (by omega)) (F.tr F2), fun _ => ?_⟩
    rw [nI_1]
    exact wk_L hM hc e0 V O q f (i + 1) g2 (by omega) (X2.mono (by omega)) (F.tr F2)
theorem cs_work (X : CI h M) (hM : M < 1800000000) : CS 192 [] h (M + 4800) := by
  intro Q q
  obtain ⟨XAh, P⟩ := X
  obtain ⟨l, hl, el⟩ := (P 0 (by omega)).2
  have k29 : ∀ (g : LH) (c : Nat), FS h g → c ≤ 80 → g.1 259 0 = nI c → VB g c → (g.1 259 1 = 0 → OGr g c) → lx_X8_work 298 (tf_Cd 298 10) Q 29 [.ref 240, tf_z] [] g := by
    intro g c F hc e0 V z
    obtain ⟨L, L2, -⟩ := tkf_lo (h := g)
    have P2 := tkf_pg (F.pg P)
    have s1 := sx_tkf (d := 9) (h := g)
    generalize tkf g = gt at L L2 P2 s1
    have Lh : ∀ e, e ≠ 251 → ¬ (259 ≤ e ∧ e ≤ 264) → gt.1 e = h.1 e := fun e h1 h2 => (L e h1).trans (F.1 e h2)
    have XT : XA gt M := XAh.lo (fun e he => Lh e (by omega) (by omega))
    have CFt : CF h gt := ⟨fun e he => Lh e (by omega) (by omega), L2.trans F.2⟩
    refine go_X8_work_29 (by decide) (s1 _ (go_X8_work_33 (by decide) ⟨fun y => ?_, fun _ => q _ gt ⟨⟨_, rfl⟩, ⟨XT.mono (by omega), P2⟩, CFt⟩⟩))
    rw [L 259 (by decide)] at y
    obtain ⟨X1, F1, -⟩ := sv_ok XT
    have s2 := sx_sv (d := 7) XT
    generalize ac_sv gt = h1 at X1 F1 s2
    have e1 : h1.1 259 0 = nI c := by rw [F1.1 259 (by decide), L 259 (by decide)]; exact e0
    have V1 : VB h1 c := V.same ((F1.1 260 (by decide)).trans (L 260 (by decide)))
    have O1 : OGr h1 c := fun line hl2 v9 => by
      have a := z y line hl2
      unfold vbn at a v9
      unfold nb at a ⊢
      rw [F1.1 260 (by decide), L 260 (by decide)] at v9
      rw [F1.1 262 (by decide), L 262 (by decide)]
      exact a v9
    refine go_X8_work_45 (by decide) (s2 _ (go_X8_work_49 (by decide) (wk_L hM hc e1 V1 O1 (fun x g2 X2 F2 => ?_) c 0 h1 (by omega) (X1.mono (by omega)) Fr.rf)))
    have k97 : ∀ b : Bool, lx_X8_work 298 (tf_Cd 298 10) Q 97 [.ref 240, .int x] [.int (bI b), .ref 240] g2 := by
      intro b
      obtain ⟨X3, F3, -⟩ := ca_ok X2 (bI b)
      refine go_X8_work_97 (by decide) (sx_ca (d := 9) b _ (go_X8_work_100 (by decide) (q _ _ ⟨⟨_, rfl⟩, ⟨X3, P2.same (fun e h1 h2 => ?_)⟩, fun e he => ?_, ?_⟩)))
      · rw [F3.1 e (by omega), F2.1 e (by omega), F1.1 e (by omega)]
      · rw [F3.1 e (by omega), F2.1 e (by omega), F1.1 e (by omega)]
        exact CFt.1 e he
      · rw [F3.2, F2.2, F1.2]
        exact CFt.2
    exact go_X8_work_87 (by decide) ⟨fun _ => go_X8_work_96 (by decide) (k97 false), fun _ => k97 true⟩
  refine en_X8_work (by decide) (go_X8_work_0 (by decide) (sp_rd (d := 3) hl el 1 _ (fun _ g1 p1 => ?_)))
  obtain ⟨F1, c, hc, e0, V⟩ := p1
  refine go_X8_work_12 (by decide) ⟨fun z => sp_co (d := 7) hc V e0 _ (fun _ g2 p2 => ?_), fun z => k29 g1 c F1 hc e0 V (fun y => absurd y z)⟩
  exact k29 g2 c (F1.tr p2.1.fs) hc (p2.1.ct e0) (p2.1.vb V) (fun y line hl v9 => by
    have a := p2.2 y line hl
    rw [p2.1.vbE] at v9
    rw [p2.1.nbE]
    exact a v9)
end SC6
