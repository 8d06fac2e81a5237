/-! ===== the reference: lay ===== -/
section RLY
variable {h g : LH} {d M : Nat}
theorem pv_rb (w : Int64) : PV (d + 1) 17 [.long w] h := pv_i fun Q q => en_X9_ruleBy (by decide) (go_X9_ruleBy_0 (by decide) ⟨fun _ => go_X9_ruleBy_37 (by decide) (q _), fun _ => go_X9_ruleBy_12 (by decide) ⟨fun _ => go_X9_ruleBy_37 (by decide) (q _), fun _ => go_X9_ruleBy_24 (by decide) ⟨fun _ => go_X9_ruleBy_37 (by decide) (q _), fun _ => go_X9_ruleBy_36 (by decide) (go_X9_ruleBy_37 (by decide) (q _))⟩⟩⟩)
theorem LNr.tr {h2 : LH} {L r r2 : Nat} {v : Value} (F : FLn h h2) (hr : r ≤ r2) (N : LNr h2 g L r2 v) : LNr h g L r v := by
  obtain ⟨F2, R, p | ⟨p, G, b2, r3, hb, T⟩⟩ := N
  · exact ⟨F.tr F2, R, Or.inl p⟩
  · exact ⟨F.tr F2, R, Or.inr ⟨p, G, b2, r3, by omega, T⟩⟩
theorem sp_grl {L b r k : Nat} (w : Int64) (T : TX h L b r) (R : RD h) (G : GT h k) : tf_Sp (d + 6) 18 [.ref 270, .long w] h (fun v g => LNr h g L r v) := by
  intro Q q
  have k14 : k ≤ 14 := G.1
  have lv : ∀ (v : Value) (g : LH), LNr h g L r v → ∃ x : Int32, v = .int x ∧ vp_nar .boolean x = x ∧ Q (.int x) g := by
    intro v g p
    rcases p.2.2 with rfl | ⟨rfl, -⟩
    · exact ⟨0, rfl, rfl, q _ g p⟩
    · exact ⟨1, rfl, rfl, q _ g p⟩
  have k30 : ∀ sg : Int32, sg = 1 ∨ sg = -1 → lx_X9_gridLine 298 (tf_Cd 298 (d + 5)) Q 30 [.ref 270, .long w, tf_z, tf_z] [.int sg, .ref 270] h := by
    intro sg hs
    refine go_X9_gridLine_30 (by decide) (sp_arcl (d := d) hs T R G _ (fun v g p => ?_))
    obtain ⟨x, rfl, hx, hq⟩ := lv v g p
    exact go_X9_gridLine_33 (by decide) ⟨hx, hq⟩
  have k16 : lx_X9_gridLine 298 (tf_Cd 298 (d + 5)) Q 16 [.ref 270, .long w, tf_z, tf_z] [] h := go_X9_gridLine_16 (by decide) ⟨fun _ => k30 1 (Or.inl rfl), fun _ => go_X9_gridLine_29 (by decide) (k30 (-1) (Or.inr rfl))⟩
  have k178 : lx_X9_gridLine 298 (tf_Cd 298 (d + 5)) Q 178 [.ref 270, .long w, tf_z, tf_z] [] h := by
    refine go_X9_gridLine_178 (by decide) (T.tok (d := d + 3) _ (fun _ g2 p2 => go_X9_gridLine_182 (by decide) ?_))
    obtain ⟨F2, b2, r2, hb2, T2⟩ := p2
    have R2 : RD g2 := R.same (F2.1 275 (by decide))
    have G2 : GT g2 k := G.tb F2.ta.tb
    refine sp_tpt (d := d + 1) (k := 0) T2 (by decide) rfl _ (fun v g3 p3 => ?_)
    obtain ⟨F3, p3 | p3⟩ := p3
    · obtain ⟨rfl, e3⟩ := p3
      exact go_X9_gridLine_188 (by decide) ⟨fun _ => go_X9_gridLine_202 (by decide) (q _ g3 ⟨F2.ln.tr F3.ln, R2.same e3, Or.inl rfl⟩), fun z => absurd rfl z⟩
    · obtain ⟨rfl, ⟨b3, r3, hb3, T3⟩, o3, ⟨p0, hp0, ep0, fp0⟩, -⟩ := p3
      have R3 : RD g3 := R2.k o3 (by rw [ep0]; exact vi_of (by omega) (by omega))
      have G3 := G2.tb F3
      refine go_X9_gridLine_188 (by decide) ⟨fun z => absurd z (by decide), fun _ => sp_takes (d := d + 2) (k := 1) T3 (by decide) rfl _ (fun v g4 p4 => ?_)⟩
      obtain ⟨F4, p4 | p4⟩ := p4
      · obtain ⟨rfl, -, e4⟩ := p4
        exact go_X9_gridLine_199 (by decide) ⟨fun _ => go_X9_gridLine_202 (by decide) (q _ g4 ⟨F2.ln.tr (F3.ln.tr F4.tb.ln), R3.same e4, Or.inl rfl⟩), fun z => absurd rfl z⟩
      · obtain ⟨rfl, ⟨b4, r4, hb4, T4⟩, o4, rg4, -⟩ := p4
        obtain ⟨m1, -, hm1, em1⟩ := rf_nat (lo := 0) (hi := 99) (by omega) (by omega) rg4
        have R4 : RD g4 := R3.k o4 (by rw [em1]; exact vi_of (by omega) (by omega))
        have G4 := G3.tb F4.tb
        have x0 : g4.1 275 0 = nI p0 := by rw [o4 0 (by decide)]; exact ep0
        have hr4 : r ≤ b4 := by
          have := T2.2.2.2.2.1
          have := T3.2.2.2.2.1
          omega
        have fin : ∀ y : Int32, (∃ s, s ≤ 198 ∧ y + 99 = nI s) → Q (.int 1) (w1 g4 276 (nI p0).toNatClampNeg y) := by
          rintro y ⟨s, hs, es⟩
          exact q _ _ ⟨(F2.ln.tr (F3.ln.tr F4.tb.ln)).tr (FLn.w (Or.inl (by decide))), R4.same (w1_ne (by decide)), Or.inr ⟨rfl, ⟨k, G4.sup hs es⟩, b4, r4, hr4, T4.o (by decide)⟩⟩
        have v7 : vp_in (nI p0) 7 := vi_of hp0 (by omega)
        have kA : (0 : Int32).toNatClampNeg = 0 := rfl
        have kB : (1 : Int32).toNatClampNeg = 1 := rfl
        refine go_X9_gridLine_199 (by decide) ⟨fun z => absurd z (by decide), fun _ => go_X9_gridLine_204 (by decide) ?_⟩
        rw [kA, kB, x0, em1]
        refine ⟨fun _ => go_X9_gridLine_238 (by decide) (show tf_K 276 = 8 by decide) (show tf_N 276 = 7 by decide) (by decide) ⟨v7, fin _ ?_⟩, fun _ => go_X9_gridLine_231 (by decide) (show tf_K 276 = 8 by decide) (show tf_N 276 = 7 by decide) (by decide) (go_X9_gridLine_238 (by decide) (show tf_K 276 = 8 by decide) (show tf_N 276 = 7 by decide) (by decide) ⟨v7, fin _ ?_⟩)⟩
        · exact ⟨m1 + 99, by omega, nI_add m1 99⟩
        · rw [kB, em1]
          refine ⟨99 - m1, by omega, ?_⟩
          rw [Int32.add_comm, show (99 : Int32) = nI 99 from rfl, nI_subneg hm1]
  have k157 : lx_X9_gridLine 298 (tf_Cd 298 (d + 5)) Q 157 [.ref 270, .long w, tf_z, tf_z] [] h := go_X9_gridLine_157 (by decide) ⟨fun _ => k178, fun _ => ⟨fun _ => k178, fun _ => sx_fails (d := d + 4) _ (go_X9_gridLine_177 (by decide) ⟨rfl, q _ _ ⟨FLn.w (Or.inr ⟨rfl, by decide⟩), R.same (w1_ne (by decide)), Or.inl rfl⟩⟩)⟩⟩
  have k89 : lx_X9_gridLine 298 (tf_Cd 298 (d + 5)) Q 89 [.ref 270, .long w, tf_z, tf_z] [] h := by
    refine go_X9_gridLine_89 (by decide) ⟨fun _ => T.tok (d := d + 3) _ (fun _ g2 p2 => go_X9_gridLine_101 (by decide) ?_), fun _ => k157⟩
    obtain ⟨F2, b2, r2, hb2, T2⟩ := p2
    have R2 : RD g2 := R.same (F2.1 275 (by decide))
    have G2 : GT g2 k := G.tb F2.ta.tb
    refine sp_takes (d := d + 2) (k := 0) T2 (by decide) rfl _ (fun v g3 p3 => ?_)
    obtain ⟨F3, p3 | p3⟩ := p3
    · obtain ⟨rfl, -, e3⟩ := p3
      exact go_X9_gridLine_113 (by decide) ⟨fun _ => go_X9_gridLine_155 (by decide) ⟨rfl, q _ g3 ⟨F2.ln.tr F3.tb.ln, R2.same e3, Or.inl rfl⟩⟩, fun z => absurd rfl z⟩
    · obtain ⟨rfl, ⟨b3, r3, hb3, T3⟩, o3, rg3, -⟩ := p3
      have G3 := G2.tb F3.tb
      have vr : vp_in (g3.1 275 0) 100 := by
        rcases rg3 with rg | rg
        · rw [rg]
          exact vi_of (j := 0) (by decide) (by decide)
        · rw [G2.2.1] at rg
          rcases Nat.eq_zero_or_pos k with hk0 | hk0
          · exfalso
            rw [hk0] at rg
            unfold rf_in at rg
            rw [Bool.and_eq_true, Bool.not_eq_true', Bool.not_eq_true', decide_eq_false_iff_not, decide_eq_false_iff_not, Int32.lt_iff_toInt_lt, Int32.lt_iff_toInt_lt] at rg
            have a1 : (0 : Int32).toInt = 0 := rfl
            have a2 : (nI 0 - 1).toInt = -1 := rfl
            omega
          · obtain ⟨k', rfl⟩ : ∃ k', k = k' + 1 := ⟨k - 1, by omega⟩
            rw [nI_pred] at rg
            obtain ⟨m, -, hm, em⟩ := rf_in_t (l := 0) (u := k') (by omega) rg (by omega)
            rw [em]
            exact vi_of (by omega) (by omega)
      have R3 : RD g3 := R2.k o3 vr
      have hr3 : r ≤ b3 := by
        have := T2.2.2.2.2.1
        omega
      have ok3 : Q (.int 1) g3 := q _ g3 ⟨F2.ln.tr F3.tb.ln, R3, Or.inr ⟨rfl, ⟨k, G3⟩, b3, r3, hr3, T3⟩⟩
      refine go_X9_gridLine_113 (by decide) ⟨fun z => absurd z (by decide), fun _ => sx_in (d := d + 4) _ _ _ _ (go_X9_gridLine_134 (by decide) ⟨fun _ => go_X9_gridLine_155 (by decide) ⟨rfl, ok3⟩, fun z => ?_⟩)⟩
      rw [bI_0, Bool.not_eq_false] at z
      have z2 : rf_in (g3.1 275 0) 0 (nI k - 1) = true := by
        rw [G3.2.1] at z
        exact z
      have hk0 : 0 < k := by
        rcases Nat.eq_zero_or_pos k with hk0 | hk0
        · exfalso
          rw [hk0] at z2
          unfold rf_in at z2
          rw [Bool.and_eq_true, Bool.not_eq_true', Bool.not_eq_true', decide_eq_false_iff_not, decide_eq_false_iff_not, Int32.lt_iff_toInt_lt, Int32.lt_iff_toInt_lt] at z2
          have a1 : (0 : Int32).toInt = 0 := rfl
          have a2 : (nI 0 - 1).toInt = -1 := rfl
          omega
        · exact hk0
      obtain ⟨k', hk'⟩ : ∃ k', k = k' + 1 := ⟨k - 1, by omega⟩
      rw [hk', nI_pred] at z2
      obtain ⟨m, -, hm, em⟩ := rf_in_t (l := 0) (u := k') (by omega) z2 (by omega)
      have kA : (0 : Int32).toNatClampNeg = 0 := rfl
      rw [kA, em, show (6 : Int32) = nI 6 from rfl, i7k, nI_clamp (by omega)]
      exact ⟨vi_of (by omega) (by omega), go_X9_gridLine_155 (by decide) ⟨rfl, q _ (w1 g3 277 (7 * m + 6) 1) ⟨(F2.ln.tr F3.tb.ln).tr (FLn.w (Or.inl (by decide))), R3.same (w1_ne (by decide)), Or.inr ⟨rfl, ⟨k, G3.blk⟩, b3, r3, hr3, T3.o (by decide)⟩⟩⟩⟩
  have k56 : lx_X9_gridLine 298 (tf_Cd 298 (d + 5)) Q 56 [.ref 270, .long w, tf_z, tf_z] [] h := by
    refine go_X9_gridLine_56 (by decide) ⟨fun _ => T.tok (d := d + 3) _ (fun _ g2 p2 => go_X9_gridLine_68 (by decide) ?_), fun _ => k89⟩
    obtain ⟨F2, b2, r2, hb2, T2⟩ := p2
    have R2 : RD g2 := R.same (F2.1 275 (by decide))
    have G2 : GT g2 k := G.tb F2.ta.tb
    refine sp_takes (d := d + 2) (k := 0) T2 (by decide) rfl _ (fun v g3 p3 => ?_)
    have kA : (0 : Int32).toNatClampNeg = 0 := rfl
    obtain ⟨F3, p3 | p3⟩ := p3
    · obtain ⟨rfl, -, e3⟩ := p3
      exact go_X9_gridLine_76 (by decide) ⟨rfl, q _ _ ⟨(F2.ln.tr F3.tb.ln).tr (FLn.w (Or.inr ⟨rfl, by decide⟩)), (R2.same e3).same (w1_ne (by decide)), Or.inl rfl⟩⟩
    · obtain ⟨rfl, ⟨b3, r3, hb3, T3⟩, o3, rg3, -⟩ := p3
      obtain ⟨m, m2, m7, em⟩ := rf_nat (lo := 2) (hi := 7) (by omega) (by omega) rg3
      have R3 : RD g3 := R2.k o3 (by rw [em]; exact vi_of (by omega) (by omega))
      have hr3 : r ≤ b3 := by
        have := T2.2.2.2.2.1
        omega
      refine go_X9_gridLine_76 (by decide) ⟨rfl, ?_⟩
      rw [kA, em]
      exact q _ (w1 g3 270 18 (nI m)) ⟨(F2.ln.tr F3.tb.ln).tr (FLn.w (Or.inr ⟨rfl, by decide⟩)), R3.same (w1_ne (by decide)), Or.inr ⟨rfl, ⟨k, (G2.tb F3.tb).pts m2 m7⟩, b3, r3, hr3, T3.w (by omega)⟩⟩
  have k34 : lx_X9_gridLine 298 (tf_Cd 298 (d + 5)) Q 34 [.ref 270, .long w, tf_z, tf_z] [] h := by
    refine go_X9_gridLine_34 (by decide) ((pv_rb w).c fun x => go_X9_gridLine_38 (by decide) ⟨fun _ => k56, fun _ => (pv_rb w).c fun y => go_X9_gridLine_47 (by decide) ?_⟩)
    have T1 : TX (w1 h 270 20 y) L b r := T.w (by omega)
    refine T1.tok (d := d + 3) _ (fun _ g2 p2 => go_X9_gridLine_54 (by decide) (q _ g2 ⟨(FLn.w (Or.inr ⟨rfl, by decide⟩)).tr p2.1.ln, ?_, Or.inr ⟨rfl, ⟨k, (G.w (Or.inr ⟨rfl, Or.inl rfl⟩)).tb p2.1.ta.tb⟩, p2.2⟩⟩))
    exact (R.same (w1_ne (by decide))).same (p2.1.1 275 (by decide))
  exact en_X9_gridLine (by decide) (go_X9_gridLine_0 (by decide) ⟨fun _ => k16, fun _ => ⟨fun _ => k16, fun _ => k34⟩⟩)
/-- all lines of a grid's text -/
theorem al_G {L : Nat} {Q : tf_Q} (q : ∀ (v : Value) (g : LH), FLn h g → RD g → (v = .int 0 ∨ (v = .int 1 ∧ ∃ k, GT g k)) → Q v g) : ∀ (f b r k : Nat) (g : LH) (x3 : Value), 401 ≤ b + f → TX g L b r → RD g → GT g k → FLn h g → lx_X9_allLines 298 (tf_Cd 298 (d + 6)) Q 42 [.ref 270, .int 1, .int 1, x3, tf_z] [] g := by
  have no : ∀ (g : LH) (x3 : Int64), FLn h g → RD g → lx_X9_allLines 298 (tf_Cd 298 (d + 6)) Q 105 [.ref 270, .int 1, .int 0, .long x3, tf_z] [] g := fun g x3 F R => go_X9_allLines_105 (by decide) ⟨fun _ => go_X9_allLines_113 (by decide) (go_X9_allLines_42 (by decide) ⟨fun _ => go_X9_allLines_116 (by decide) ⟨rfl, q _ g F R (Or.inl rfl)⟩, fun z => absurd rfl z⟩), fun z => absurd rfl z⟩
  intro f
  induction f with
  | zero =>
    intro b r k g x3 hf T
    exfalso
    have := T.1
    have := T.2.2.2.2.1
    have := T.2.2.2.2.2.1
    omega
  | succ f ih =>
    intro b r k g x3 hf T R G F
    have k69 : ∀ y : Int64, g.1 270 9 ≠ 0 → lx_X9_allLines 298 (tf_Cd 298 (d + 6)) Q 69 [.ref 270, .int 1, .int 1, x3, tf_z] [.long y] g := by
      intro y n0
      have hbr : b + 1 ≤ r := T.2.2.2.2.2.2.1.resolve_left n0
      refine go_X9_allLines_69 (by decide) ⟨fun z => absurd z (by decide), fun _ => sp_grl (d := d) y T R G _ (fun v g2 p => ?_)⟩
      obtain ⟨F2, R2, rfl | ⟨rfl, ⟨k2, G2⟩, b2, r2, hb2, T2⟩⟩ := p
      · exact go_X9_allLines_79 (by decide) (go_X9_allLines_87 (by decide) ⟨fun _ => no g2 y (F.tr F2) R2, fun z => absurd rfl z⟩)
      · refine go_X9_allLines_79 (by decide) (go_X9_allLines_87 (by decide) ⟨fun z => absurd z (by decide), fun _ => ⟨fun z4 => go_X9_allLines_105 (by decide) ⟨fun z => absurd z (by decide), fun _ => T2.tok (d := d + 4) _ (fun _ g3 p3 => go_X9_allLines_113 (by decide) ?_)⟩, fun _ => sx_fails (d := d + 5) _ (go_X9_allLines_104 (by decide) (no _ y ((F.tr F2).tr (FLn.w (Or.inr ⟨rfl, by decide⟩))) (R2.same (w1_ne (by decide)))))⟩⟩)
        obtain ⟨F3, b3, r3, hb3, T3⟩ := p3
        have h23 : b2 + 1 ≤ r2 := T2.2.2.2.2.2.2.1.resolve_left (fun z => by rw [z] at z4; exact absurd z4 (by decide))
        have G3 := G2.tb F3.ta.tb
        have R3 := R2.same (F3.1 275 (by decide))
        exact ih b3 r3 k2 g3 _ (by omega) T3 R3 G3 ((F.tr F2).tr F3.ln)
    exact go_X9_allLines_42 (by decide) ⟨fun z => absurd z (by decide), fun _ => ⟨fun _ => go_X9_allLines_116 (by decide) ⟨rfl, q _ g F R (Or.inr ⟨rfl, k, G⟩)⟩, fun n0 => ⟨fun _ => k69 _ n0, fun _ => go_X9_allLines_68 (by decide) (k69 _ n0)⟩⟩⟩
end RLY
