/-! ===== lay and work of the class, with what is at fault ===== -/
section SXA
variable {h g : LH} {d M : Nat}
theorem tkf_f : (tkf h).1 251 2 = h.1 259 1 ∧ (tkf h).1 251 3 = h.1 259 2 := by
  unfold tkf
  exact ⟨by rw [w1_at (by decide), w1_eq, w1_ne (by decide)], by rw [w1_eq, w1_ne (by decide), w1_ne (by decide)]⟩
def CX (kn : Nat) (As : List Value) (h : LH) (N : Nat) (r : Int32 × Int32) : Prop := tf_Sp 11 kn (.ref 240 :: As) h (fun v g => ((∃ x, v = .int x) ∧ CI g N ∧ CF h g ∧ g.1 269 = h.1 269 ∧ (∀ e, 252 ≤ e → e < 259 → g.1 e = h.1 e) ∧ g.1 251 1 = nI 0) ∧ (g.1 251 2, g.1 251 3) = r)
theorem cx_lay {l : Nat} (X : CI h M) (hl : l ≤ 400) (el : h.1 251 1 = nI l) : CX 182 [] h M (px_lay (h.1 252) l) := by
  intro Q q
  obtain ⟨XAh, P⟩ := X
  have k36 : ∀ (g : LH) (c : Nat), FS h g → c ≤ 80 → g.1 259 0 = nI c → VB g c → (g.1 259 1 = 0 → AGr g c) → fp g = px_lay (h.1 252) l → lx_X8_lay 298 (tf_Cd 298 10) Q 36 [.ref 240] [] g := by
    intro g c F hc e0 V z zf
    have LF : ((tkf g).1 251 2, (tkf g).1 251 3) = px_lay (h.1 252) l := by rw [tkf_f.1, tkf_f.2]; exact zf
    obtain ⟨L, L2, L3⟩ := tkf_lo (h := g)
    have P2 := tkf_pg (F.pg P)
    have s1 := sx_tkf (d := 9) (h := g)
    generalize tkf g = gt at L L2 L3 P2 s1 LF
    have Lh : ∀ e, e ≠ 251 → ¬ (259 ≤ e ∧ e ≤ 264) → gt.1 e = h.1 e := fun e h1 h2 => (L e h1).trans (F.1 e h2)
    have XT : XA gt M := XAh.lo (fun e he => Lh e (by omega) (by omega))
    have CFt : CF h gt := ⟨fun e he => Lh e (by omega) (by omega), L2.trans F.2⟩
    refine go_X8_lay_36 (by decide) (s1 _ (go_X8_lay_40 (by decide) ⟨fun y => go_X8_lay_52 (by decide) ?_, fun _ => q _ gt ⟨⟨⟨_, rfl⟩, ⟨XT, P2⟩, CFt, Lh 269 (by decide) (by decide), fun e h1 h2 => Lh e (by omega) (by omega), L3⟩, LF⟩⟩))
    rw [L 259 (by decide)] at y
    have A := (z y).same (L 260 (by decide)) (L 262 (by decide))
    have V2 : VB gt c := V.same (L 260 (by decide))
    have e2 : gt.1 259 0 = nI c := by rw [L 259 (by decide)]; exact e0
    obtain ⟨n, k, m, hm, H⟩ := XT.net
    refine sp_fi (d := 7) hc V2 A e2 H.1 _ (fun _ g3 p => go_X8_lay_63 (by decide) ?_)
    obtain ⟨n2, k2, N3⟩ := p
    have H3 : NT g3 0 n2 k2 m := ⟨N3.1, by rw [show (0 + 11 : Nat) = 11 from rfl, N3.2.1]; exact H.2.1, by rw [show (0 + 11 : Nat) = 11 from rfl, N3.2.1]; exact H.2.2⟩
    have s4 := sx_beg (d := 8) H3.1 0
    obtain ⟨H4, L4, B4⟩ := beg_ok H3 0
    generalize nt_beg g3 0 n2 k2 0 = g4 at s4 H4 L4 B4
    refine s4 _ (go_X8_lay_71 (by decide) (sx_tcl (d := 9) (t := 11) (by decide) _ (go_X8_lay_81 (by decide) ?_)))
    have L5 : ∀ e, e ≠ 11 → (nt_tcl g4 11).1 e = g4.1 e := fun e he => by unfold nt_tcl; rw [w1_ne he, w1_ne he, w1_ne he, w1_ne he]
    have H5 : NT (nt_tcl g4 11) 0 n2 k2 0 := by
      refine ⟨H4.1.keep (L5 _ (by decide)) (fun a _ => by rw [L5 _ (by decide)]) (fun a _ => by rw [L5 _ (by decide)]) (L5 _ (by decide)) (L5 _ (by decide)), ?_, 0, by omega, ?_⟩
      · show (nt_tcl g4 11).1 11 0 = nI 0
        unfold nt_tcl
        rw [w1_at (by decide), w1_at (by decide), w1_at (by decide), w1_eq]
        rfl
      · show (nt_tcl g4 11).1 11 3 + 1 = nI 0
        unfold nt_tcl
        rw [w1_eq]
        rfl
    have B5 : (nt_tcl g4 11).2 = g4.2 := rfl
    generalize nt_tcl g4 11 = g5 at H5 L5 B5
    have L6 : ∀ e, ¬ e < 15 → g5.1 e = gt.1 e := fun e he => by rw [L5 e (by omega), L4 e (by omega), N3.2.2.1 e (by omega)]
    have X5 : XA g5 M := act_ok XT (Nat.zero_le _) H5 L6
    have X6 : XA (w1 g5 240 9 0) M := by
      obtain ⟨x1, ⟨c5, r1, r2, r3⟩, x3, x4⟩ := X5
      refine ⟨x1.hi (by decide), ⟨c5, by rw [w1_ne (by decide)]; exact r1, r2, fun i hi => by rw [w1_ne (by decide)]; exact r3 i hi⟩, by rw [w1_at (by decide)]; exact x3, ?_⟩
      rw [w1_eq]
      exact vi_of (j := 0) (by decide) (by decide)
    refine q _ (w1 g5 240 9 0) ⟨⟨⟨_, rfl⟩, ⟨X6, P2.same (fun e h1 h2 => by rw [w1_ne (by omega), L6 e (by omega)])⟩, ⟨fun e he => ?_, ?_⟩, by rw [w1_ne (by decide), L6 269 (by decide)]; exact Lh 269 (by decide) (by decide), fun e h1 h2 => by rw [w1_ne (by omega), L6 e (by omega)]; exact Lh e (by omega) (by omega), by rw [w1_ne (by decide), L6 251 (by decide)]; exact L3⟩, by rw [w1_ne (by decide), L6 251 (by decide)]; exact LF⟩
    · rw [w1_ne (by omega), L6 e (by omega)]
      exact CFt.1 e he
    · show g5.2 = h.2
      rw [B5, B4, N3.2.2.2]
      exact CFt.2
  refine en_X8_lay (by decide) (go_X8_lay_0 (by decide) (sx_rd (d := 3) hl el 0 _ (fun _ g1 p1 => ?_)))
  obtain ⟨-, F1, S, W⟩ := p1
  have c80 := px_all_80 (c := h.1 252) (l := l) (o := 0) 80 (px_p (h.1 252) l 0)
  have V := S.vb
  have Sg := S.sg
  have el1 : g1.1 251 1 = nI l := by rw [F1.1 251 (by decide)]; exact el
  unfold px_lay at k36
  have W2 := W.fp
  generalize px_all (h.1 252) l 0 80 (px_p (h.1 252) l 0) = r at c80 V Sg W S k36 W2
  obtain ⟨ls, w⟩ := r
  refine go_X8_lay_12 (by decide) ⟨fun z => ?_, fun z => ?_⟩
  · cases w with
    | some w => exact absurd (W.1.symm.trans z) (by decide)
    | none =>
      rw [el1]
      refine sx_cg (d := 6) Sg S.1 c80 _ _ (fun _ g2 p2 => ?_)
      obtain ⟨G2, z2, -⟩ := p2
      have z3 : fp g2 = px_cg ls (nI l) (0, -1) := by rw [z2]; show px_cg ls (nI l) (g1.1 259 1, g1.1 259 2) = _; rw [W.1, W.2]
      refine k36 g2 ls.length (F1.tr G2.fs) c80 ((G2.2.2 0 (by decide) (by decide)).trans S.1) (V.same (G2.1 260 (by decide) (by decide))) (fun y => (G2.lsg Sg).agr (px_gs_A ls 0 (0, -1) (by omega) (px_cg_0 (e := nI l) ?_))) z3
      rw [← z3]
      exact y
  · cases w with
    | none => exact absurd W.1 z
    | some w => exact k36 g1 ls.length F1 c80 S.1 V (fun y => absurd y z) W2
theorem cx_work {l : Nat} (X : CI h M) (hM : M < 1800000000) (hl : l ≤ 400) (el : h.1 251 1 = nI l) : CX 192 [] h (M + 4800) (px_wrk (h.1 252) l) := by
  intro Q q
  obtain ⟨XAh, P⟩ := X
  have k29 : ∀ (g : LH) (c : Nat), FS h g → c ≤ 80 → g.1 259 0 = nI c → VB g c → (g.1 259 1 = 0 → OGr g c) → fp g = px_wrk (h.1 252) l → lx_X8_work 298 (tf_Cd 298 10) Q 29 [.ref 240, tf_z] [] g := by
    intro g c F hc e0 V z zf
    have LF : ((tkf g).1 251 2, (tkf g).1 251 3) = px_wrk (h.1 252) l := by rw [tkf_f.1, tkf_f.2]; exact zf
    obtain ⟨L, L2, L3⟩ := tkf_lo (h := g)
    have P2 := tkf_pg (F.pg P)
    have s1 := sx_tkf (d := 9) (h := g)
    generalize tkf g = gt at L L2 L3 P2 s1 LF
    have Lh : ∀ e, e ≠ 251 → ¬ (259 ≤ e ∧ e ≤ 264) → gt.1 e = h.1 e := fun e h1 h2 => (L e h1).trans (F.1 e h2)
    have XT : XA gt M := XAh.lo (fun e he => Lh e (by omega) (by omega))
    have CFt : CF h gt := ⟨fun e he => Lh e (by omega) (by omega), L2.trans F.2⟩
    refine go_X8_work_29 (by decide) (s1 _ (go_X8_work_33 (by decide) ⟨fun y => ?_, fun _ => q _ gt ⟨⟨⟨_, rfl⟩, ⟨XT.mono (by omega), P2⟩, CFt, Lh 269 (by decide) (by decide), fun e h1 h2 => Lh e (by omega) (by omega), L3⟩, LF⟩⟩))
    rw [L 259 (by decide)] at y
    obtain ⟨X1, F1, -⟩ := sv_ok XT
    have s2 := sx_sv (d := 7) XT
    generalize ac_sv gt = h1 at X1 F1 s2
    have e1 : h1.1 259 0 = nI c := by rw [F1.1 259 (by decide), L 259 (by decide)]; exact e0
    have V1 : VB h1 c := V.same ((F1.1 260 (by decide)).trans (L 260 (by decide)))
    have O1 : OGr h1 c := fun line hl2 v9 => by
      have a := z y line hl2
      unfold vbn at a v9
      unfold nb at a ⊢
      rw [F1.1 260 (by decide), L 260 (by decide)] at v9
      rw [F1.1 262 (by decide), L 262 (by decide)]
      exact a v9
    refine go_X8_work_45 (by decide) (s2 _ (go_X8_work_49 (by decide) (wk_L hM hc e1 V1 O1 (fun x g2 X2 F2 => ?_) c 0 h1 (by omega) (X1.mono (by omega)) Fr.rf)))
    have k97 : ∀ b : Bool, lx_X8_work 298 (tf_Cd 298 10) Q 97 [.ref 240, .int x] [.int (bI b), .ref 240] g2 := by
      intro b
      obtain ⟨X3, F3, -⟩ := ca_ok X2 (bI b)
      have LT : ∀ e, 244 ≤ e → e ≠ 251 → ¬ (259 ≤ e ∧ e ≤ 264) → (ac_ca g2 (bI b)).1 e = h.1 e := fun e h0 h1 h2 => by rw [F3.1 e h0, F2.1 e h0, F1.1 e h0]; exact Lh e h1 h2
      refine go_X8_work_97 (by decide) (sx_ca (d := 9) b _ (go_X8_work_100 (by decide) (q _ _ ⟨⟨⟨_, rfl⟩, ⟨X3, P2.same (fun e h1 h2 => ?_)⟩, ⟨fun e he => ?_, ?_⟩, LT 269 (by decide) (by decide) (by decide), fun e h1 h2 => LT e (by omega) (by omega) (by omega), by rw [F3.1 251 (by decide), F2.1 251 (by decide), F1.1 251 (by decide)]; exact L3⟩, by rw [F3.1 251 (by decide), F2.1 251 (by decide), F1.1 251 (by decide)]; exact LF⟩)))
      · rw [F3.1 e (by omega), F2.1 e (by omega), F1.1 e (by omega)]
      · rw [F3.1 e (by omega), F2.1 e (by omega), F1.1 e (by omega)]
        exact CFt.1 e he
      · rw [F3.2, F2.2, F1.2]
        exact CFt.2
    exact go_X8_work_87 (by decide) ⟨fun _ => go_X8_work_96 (by decide) (k97 false), fun _ => k97 true⟩
  refine en_X8_work (by decide) (go_X8_work_0 (by decide) (sx_rd (d := 3) hl el 1 _ (fun _ g1 p1 => ?_)))
  obtain ⟨-, F1, S, W⟩ := p1
  have c80 := px_all_80 (c := h.1 252) (l := l) (o := 1) 80 (px_p (h.1 252) l 0)
  have V := S.vb
  have So := S.so
  unfold px_wrk at k29
  have W2 := W.fp
  generalize px_all (h.1 252) l 1 80 (px_p (h.1 252) l 0) = r at c80 V So W S k29 W2
  obtain ⟨ls, w⟩ := r
  refine go_X8_work_12 (by decide) ⟨fun z => ?_, fun z => ?_⟩
  · cases w with
    | some w => exact absurd (W.1.symm.trans z) (by decide)
    | none =>
      refine sx_co (d := 7) So S.1 c80 _ (fun _ g2 p2 => ?_)
      obtain ⟨G2, z2⟩ := p2
      have z3 : fp g2 = px_os ls (0, -1) := by rw [z2]; show px_os ls (g1.1 259 1, g1.1 259 2) = _; rw [W.1, W.2]
      refine k29 g2 ls.length (F1.tr G2.fs) c80 (G2.ct S.1) (G2.vb V) (fun y => (So.fl G2).ogr (px_os_0 ls (0, -1) ?_).2) z3
      rw [← z3]
      exact y
  · cases w with
    | none => exact absurd W.1 z
    | some w => exact k29 g1 ls.length F1 c80 S.1 V (fun y => absurd y z) W2
end SXA
