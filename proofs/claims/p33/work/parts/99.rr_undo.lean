/-! ===== shift, undo, images on both sides ===== -/
section RRU
variable {h g h2 h3 g1 g3 r r2 : LH} {b n k m t u M d : Nat}
theorem rx_shifts (G : GI r n k M) {x y z : Int32} (c : rf_cs r x y z = true) (N : NB h 0 r n k) (A : TA h 0 r m) : tf_Sp (d + 4) 58 [.ref 270, .int x, .int y, .int z] r (fun _ g => NR (nt_beg (nt_mv h 0 x y z) 0 n k 1) 0 g n k m) := by
  intro Q q
  have hn := G.1.1
  unfold rf_cs at c
  simp only [Bool.and_eq_true, Bool.not_eq_true', decide_eq_false_iff_not] at c
  obtain ⟨c1, c2, c3, c4⟩ := c
  obtain ⟨p, o, hp, ho, hpo, ep, eo⟩ := rf_two_t G.1 c1
  obtain ⟨mm, hm1, hm2, em⟩ := rf_in_t (l := 1) (u := 99) (by omega) c2 (by omega)
  subst ep eo em
  rw [i44, nI_clamp (by omega)] at c3 c4
  have B := G.bi
  obtain ⟨s1, hs1, es1⟩ := B.2.2.2.2.2.2 p hp
  obtain ⟨s2, hs2, es2⟩ := B.2.2.2.2.2.2 o ho
  obtain ⟨h3, e3⟩ := sh_hi hs1 hm2 es1 c3
  obtain ⟨h4, e4⟩ := sh_lo hs2 hm2 es2 c4
  have B1 := B.sup (p := p) (by omega) h3 e3
  have r2 : (w1 r 271 (44 + p) (r.1 271 (44 + p) + nI mm)).1 271 (44 + o) = r.1 271 (44 + o) := w1_at (by omega)
  have B2 := B1.sup (p := o) (v := r.1 271 (44 + o) - nI mm) (by omega) (show s2 - mm ≤ 198 by omega) e4
  have v1 : vp_in (nI (44 + p)) 865 := vi_of (by omega) (by omega)
  have v2 : vp_in (nI (44 + o)) 865 := vi_of (by omega) (by omega)
  have er : ∀ i, i ≠ 44 + p → i ≠ 44 + o → (w1 (w1 r 271 (44 + p) (r.1 271 (44 + p) + nI mm)) 271 (44 + o) (r.1 271 (44 + o) - nI mm)).1 271 i = r.1 271 i := fun i h1 h2 => by rw [w1_at h2, w1_at h1]
  have erp : (w1 (w1 r 271 (44 + p) (r.1 271 (44 + p) + nI mm)) 271 (44 + o) (r.1 271 (44 + o) - nI mm)).1 271 (44 + p) = r.1 271 (44 + p) + nI mm := by rw [w1_at (by omega), w1_eq]
  have ero : (w1 (w1 r 271 (44 + p) (r.1 271 (44 + p) + nI mm)) 271 (44 + o) (r.1 271 (44 + o) - nI mm)).1 271 (44 + o) = r.1 271 (44 + o) - nI mm := w1_eq
  have cl : ∀ e, e ≠ 1 → (nt_mv h 0 (nI p) (nI o) (nI mm)).1 e = h.1 e := fun e he => by unfold nt_mv; rw [w1_ne (by omega), w1_ne (by omega)]
  have cp : (nt_mv h 0 (nI p) (nI o) (nI mm)).1 (0 + 1) p = h.1 (0 + 1) p + nI mm := by
    unfold nt_mv
    rw [nI_clamp (by omega), nI_clamp (by omega), w1_at hpo, w1_eq]
  have co : (nt_mv h 0 (nI p) (nI o) (nI mm)).1 (0 + 1) o = h.1 (0 + 1) o - nI mm := by
    unfold nt_mv
    rw [nI_clamp (by omega), nI_clamp (by omega), w1_eq, w1_at (Ne.symm hpo)]
  have cq : ∀ q, q ≠ p → q ≠ o → (nt_mv h 0 (nI p) (nI o) (nI mm)).1 (0 + 1) q = h.1 (0 + 1) q := fun q h1 h2 => by
    unfold nt_mv
    rw [nI_clamp (by omega), nI_clamp (by omega), w1_at h2, w1_at h1]
  generalize nt_mv h 0 (nI p) (nI o) (nI mm) = hm at cl cp co cq q
  refine en_X9_shifts (by decide) (go_X9_shifts_0 (by decide) ?_)
  rw [i44, i44, nI_clamp (by omega), nI_clamp (by omega)]
  refine ⟨v1, v1, v2, v2, ?_⟩
  show tf_Cd 298 (d + 3) _ _ (w1 (w1 r 271 (44 + p) (r.1 271 (44 + p) + nI mm)) 271 (44 + o) ((w1 r 271 (44 + p) (r.1 271 (44 + p) + nI mm)).1 271 (44 + o) - nI mm)) _
  rw [r2]
  generalize w1 (w1 r 271 (44 + p) (r.1 271 (44 + p) + nI mm)) 271 (44 + o) (r.1 271 (44 + o) - nI mm) = rr at B2 er erp ero
  have NB2 : NB hm 0 rr n k := N.mv (by omega) (by omega) (cl 0 (by omega)) (fun q hq => by
    by_cases z1 : q = p
    · rw [z1, cp, erp, N.2.1 p hp]
    · by_cases z2 : q = o
      · rw [z2, co, ero, N.2.1 o ho]
      · rw [cq q z1 z2, er _ (by omega) (by omega)]
        exact N.2.1 q hq) (fun o h1 h2 => cl _ (by omega)) (er 2 (by omega) (by omega)) (fun i h1 h2 => er i (by omega) (by omega))
  exact rx_bga (d := d) (M := M) (by omega) B2 NB2 (A.mv (fun o h1 h2 => cl _ (by omega)) (fun i h1 h2 => er i (by omega) (by omega))) 1 _ (fun v g p4 => go_X9_shifts_31 (by decide) (q _ _ p4.2.2.2))
theorem zz_6 (I : IZ h t) (ht : t ≤ 511) (x y z : Int32) : lk_eq h 187 [.ref 240, .int x, .int y, .int z] 59 [.ref 270, .int x, .int y, .int z] (fun g => NZ g (t + 1)) := by
  have X := I.2.1.1.1.1
  obtain ⟨n, k, m, c, hm, H, R, G, N, e15, X1, C1⟩ := I.net ht
  obtain ⟨u, hu, eu⟩ := I.un
  have n7 := G.1.1.2.1
  have k14 := G.1.1.2.2
  have s1 := sx_sv (d := 7) X
  have s2 := sx_move (d := 7) H.1 x y z
  have s3 := fun g2 => sx_ca (d := 9) (h := g2) (nt_canMove (ac_sv h) 0 x y z)
  have rC : tf_Rt 11 187 [.ref 240, .int x, .int y, .int z] h (.int (bI (nt_canMove (ac_sv h) 0 x y z))) (ac_ca (if nt_canMove (ac_sv h) 0 x y z = true then nt_beg (nt_mv (ac_sv h) 0 x y z) 0 n k 1 else ac_sv h) (bI (nt_canMove (ac_sv h) 0 x y z))) := fun Q q => en_X8_shift (by decide) (go_X8_shift_0 (by decide) (s1 _ (go_X8_shift_4 (by decide) (s2 _ (go_X8_shift_15 (by decide) (s3 _ _ (go_X8_shift_18 (by decide) ⟨bI_nar _, q⟩)))))))
  refine rC.sp ⟨_, rfl, ?_⟩
  have HM : NT (nt_mv (ac_sv h) 0 x y z) 0 n k m := (H.w6 (by decide) (by decide) (by decide) (by decide) (by decide) (by decide)).w6 (by decide) (by decide) (by decide) (by decide) (by decide) (by decide)
  have eM : ∀ e, ¬ e < 15 → (nt_mv (ac_sv h) 0 x y z).1 e = (ac_sv h).1 e := fun e he => by unfold nt_mv; rw [w1_ne (by omega), w1_ne (by omega)]
  obtain ⟨HB, LB, -⟩ := beg_ok HM 1
  have L3 : ∀ e, ¬ e < 15 → (nt_beg (nt_mv (ac_sv h) 0 x y z) 0 n k 1).1 e = (ac_sv h).1 e := fun e he => by rw [LB e (by omega), eM e he]
  have ec := cmv_eq N.1 G.1 x y z
  intro Q q
  cases cc : nt_canMove (ac_sv h) 0 x y z with
  | false =>
    rw [cc] at q ec
    rw [if_neg (by decide), ac_ca_0]
    refine en_X9_shift (by decide) (go_X9_shift_0 (by decide) ?_)
    show tf_Cd 298 10 _ _ (w1 (ac_sv h) 270 0 0) _
    have o : ∀ e, e ≠ 270 → (w1 (ac_sv h) 270 0 0).1 e = (ac_sv h).1 e := fun e he => w1_ne he
    have o5 : (w1 (ac_sv h) 270 0 0).1 270 5 = (ac_sv h).1 270 5 := w1_at (by decide)
    generalize w1 (ac_sv h) 270 0 0 = q1 at o o5
    have r1 : q1.1 271 = h.1 271 := by rw [o 271 (by decide), C1.1 271 (by decide)]
    have G1 : GI q1 n k (8000 * t) := G.cong (RW.of r1)
    refine sx_rcs (d := 6) G1.1 x y z _ (go_X9_shift_12 (by decide) ⟨fun _ => q _ _ ⟨rfl, I.no (fun e h1 _ => o e h1) o5⟩, fun c => absurd ?_ c⟩)
    rw [bI_0, rf_cs_same r1]
    exact ec.symm
  | true =>
    rw [cc] at q ec
    rw [if_pos rfl]
    refine en_X9_shift (by decide) (go_X9_shift_0 (by decide) ?_)
    show tf_Cd 298 10 _ _ (w1 (ac_ca (nt_beg (nt_mv (ac_sv h) 0 x y z) 0 n k 1) 1) 270 0 0) _
    have c2 : ∀ e, 270 ≤ e → (nt_beg (nt_mv (ac_sv h) 0 x y z) 0 n k 1).1 e = h.1 e := fun e he => by rw [L3 e (by omega), C1.1 e he]
    obtain ⟨q1, eq1, qe, q5, q71, q74, q55⟩ := q_beg I eu c2
    rw [← eq1]
    have G1 : GI q1 n k (8000 * t) := G.cong (RW.of q71)
    have c1 : rf_cs q1 x y z = true := by rw [rf_cs_same q71]; exact ec.symm
    refine sx_rcs (d := 6) G1.1 x y z _ (go_X9_shift_12 (by decide) ⟨fun z => ?_, fun c => go_X9_shift_17 (by decide) ?_⟩)
    · rw [bI_0, c1] at z
      cases z
    refine rx_kp (d := 9) hu q5 _ (fun v0 g3 p => go_X9_shift_22 (by decide) ?_)
    have r3 : g3.1 271 = h.1 271 := by rw [p.2.2.2.1 271 (by decide) (by decide), q71]
    have G3 : GI g3 n k (8000 * (t + 1)) := (G.cong (RW.of r3)).mono (by omega)
    have N3 := N.rw (RW.of r3) n7 k14
    have c3 : rf_cs g3 x y z = true := by rw [rf_cs_same r3]; exact ec.symm
    refine ((sp_shifts (d := 6) G3 c3).cj (rx_shifts (d := 6) G3 c3 N3.1.nb N3.2.2)) _ (fun v4 g4 p4 => go_X9_shift_29 (by decide) (q _ _ ⟨rfl, I.dn hu eu (fun e h1 h2 => L3 e (by omega)) c2 (fun e h1 _ => qe e h1) p (fun e h1 h2 h3 => p4.1.2.1 e h2) (by rw [p4.1.2.1 270 (by decide)]) (fun ix h1 h2 => p4.1.2.2 ix (by omega)) ⟨n, k, m, by omega, HB, p4.1.1, p4.2⟩⟩))
theorem zz_12 (I : IZ h t) : lk_eq h 193 [.ref 240] 70 [.ref 270] (fun g => NZ g (t + 1)) := by
  have X := I.2.1.1.1.1
  obtain ⟨N, U, MI⟩ := id I.1
  obtain ⟨tt, u, h1, h2, h3, h4, h5, h6⟩ := id U
  by_cases u0 : u = 0
  · have c9 : h.1 240 9 = 0 := by rw [h4, u0]; rfl
    have rC : tf_Rt 11 193 [.ref 240] h (.int (-1)) h := fun Q q => en_X8_undo (by decide) (go_X8_undo_0 (by decide) ⟨fun _ => q, fun z => absurd c9 z⟩)
    refine rC.sp ⟨_, rfl, ?_⟩
    intro Q q
    refine en_X9_undo (by decide) (go_X9_undo_0 (by decide) ?_)
    show ((w1 h 270 0 0).1 270 5 = 0 → Q (.int (-1)) (w1 h 270 0 0)) ∧ (¬ (w1 h 270 0 0).1 270 5 = 0 → lx_X9_undo 298 (tf_Cd 298 10) Q 14 [.ref 270, tf_z] [] (w1 h 270 0 0))
    refine ⟨fun _ => q _ _ ⟨rfl, NZ.nn I.1 (fun e h1 _ => w1_ne h1) (w1_at (by decide))⟩, fun z => absurd ?_ z⟩
    rw [w1_at (by decide), h5, u0]
    rfl
  · have c9 : ¬ h.1 240 9 = 0 := fun z => by
      rw [h4] at z
      have := (nI_eq (a := u) (b := 0) (by omega) (by omega)).mp z
      omega
    have ej : h.1 240 9 - 1 = nI (u - 1) := by
      rw [h4]
      obtain ⟨j1, rfl⟩ : ∃ j1, u = j1 + 1 := ⟨u - 1, by omega⟩
      rw [nI_pred]
      rfl
    have key : ∃ s, s = (tt + 10) % 11 ∧ tf_Rt 11 193 [.ref 240] h (.int (nI (u - 1))) (nt_cp (w1 (w1 h 240 8 (nI s)) 240 9 (nI (u - 1))) 0 (15 * (s + 2))) := by
      have kk : ∀ (s : Nat), s < 11 → ∀ Q : tf_Q, Q (.int (nI (u - 1))) (nt_cp (w1 (w1 h 240 8 (nI s)) 240 9 (nI (u - 1))) 0 (15 * (s + 2))) → lx_X8_undo 298 (tf_Cd 298 10) Q 28 [.ref 240] [.int (nI s), .ref 240] h := by
        intro s hs Q q
        have e9a : (tf_up h.1 240 8 (nI s)) 240 9 = h.1 240 9 := w1_at (h := h) (c := 240) (i := 8) (j := 9) (v := nI s) (by decide)
        have e8a : (tf_up (tf_up h.1 240 8 (nI s)) 240 9 (nI (u - 1))) 240 8 = nI s := by
          have a1 : (w1 (w1 h 240 8 (nI s)) 240 9 (nI (u - 1))).1 240 8 = nI s := by rw [w1_at (by decide), w1_eq]
          exact a1
        have s2 := sx_ncp (d := 8) (h := w1 (w1 h 240 8 (nI s)) 240 9 (nI (u - 1))) (b := 0) (c := 15 * (s + 2)) (by decide +kernel) (tf_K15 (r := s + 2) (by omega)) (by omega)
        have C := nt_cp_ok (h := w1 (w1 h 240 8 (nI s)) 240 9 (nI (u - 1))) (b := 0) (c := 15 * (s + 2)) (by decide +kernel) (tf_K15 (r := s + 2) (by omega)) (by omega)
        have g9 : (nt_cp (w1 (w1 h 240 8 (nI s)) 240 9 (nI (u - 1))) 0 (15 * (s + 2))).1 240 9 = nI (u - 1) := by rw [C.1 240 (by omega), w1_eq]
        refine go_X8_undo_28 (by decide) ?_
        rw [e9a, ej, e8a]
        refine ⟨vi_of hs (by omega), ?_⟩
        rw [nI_clamp (by omega), tf_R266 s hs]
        refine s2 _ (go_X8_undo_57 (by decide) ?_)
        rw [g9]
        exact q
      by_cases c8 : h.1 240 8 = 0
      · have t0 : tt = 0 := (nI_eq (a := tt) (b := 0) (by omega) (by omega)).mp (h3.symm.trans c8)
        exact ⟨10, by omega, fun Q q => en_X8_undo (by decide) (go_X8_undo_0 (by decide) ⟨fun z => absurd z c9, fun _ => go_X8_undo_9 (by decide) ⟨fun _ => kk 10 (by omega) Q q, fun z => absurd c8 z⟩⟩)⟩
      · have t0 : tt ≠ 0 := fun z => c8 (by rw [h3, z]; rfl)
        have ei : h.1 240 8 - 1 = nI (tt - 1) := by
          rw [h3]
          obtain ⟨i1, rfl⟩ : ∃ i1, tt = i1 + 1 := ⟨tt - 1, by omega⟩
          rw [nI_pred]
          rfl
        refine ⟨tt - 1, by omega, fun Q q => en_X8_undo (by decide) (go_X8_undo_0 (by decide) ⟨fun z => absurd z c9, fun _ => go_X8_undo_9 (by decide) ⟨fun z => absurd z c8, fun _ => go_X8_undo_22 (by decide) ?_⟩⟩)⟩
        rw [ei]
        exact kk (tt - 1) (by omega) Q q
    obtain ⟨s, es, rC⟩ := key
    have hs : s < 11 := by omega
    refine rC.sp ⟨_, rfl, ?_⟩
    have C := nt_cp_ok (h := w1 (w1 h 240 8 (nI s)) 240 9 (nI (u - 1))) (b := 0) (c := 15 * (s + 2)) (by decide +kernel) (tf_K15 (r := s + 2) (by omega)) (by omega)
    have w0 : ∀ e, e ≠ 240 → (w1 (w1 h 240 8 (nI s)) 240 9 (nI (u - 1))).1 e = h.1 e := fun e he => by rw [w1_ne he, w1_ne he]
    have w8 : (w1 (w1 h 240 8 (nI s)) 240 9 (nI (u - 1))).1 240 8 = nI s := by rw [w1_at (by decide), w1_eq]
    have w9 : (w1 (w1 h 240 8 (nI s)) 240 9 (nI (u - 1))).1 240 9 = nI (u - 1) := w1_eq
    generalize w1 (w1 h 240 8 (nI s)) 240 9 (nI (u - 1)) = hw at C w0 w8 w9
    generalize nt_cp hw 0 (15 * (s + 2)) = hc at C
    have c0 : ∀ e, 15 ≤ e → e ≠ 240 → hc.1 e = h.1 e := fun e z1 z2 => by rw [C.1 e (by omega), w0 e z2]
    have Nu := h6 (u - 1) (by omega)
    have ix0 : (tt + 11 - u + (u - 1)) % 11 = s := by omega
    rw [ix0, show 2 + s = s + 2 by omega] at Nu
    have N1 : NX hc 0 (sl h 274 (170 * (u - 1))) t := (Nu.cl (g := hw) (fun o ho => w0 _ (by omega))).cp C (by decide +kernel)
    intro Q q
    refine en_X9_undo (by decide) (go_X9_undo_0 (by decide) ?_)
    show ((w1 hc 270 0 0).1 270 5 = 0 → Q (.int (-1)) (w1 hc 270 0 0)) ∧ (¬ (w1 hc 270 0 0).1 270 5 = 0 → lx_X9_undo 298 (tf_Cd 298 10) Q 14 [.ref 270, tf_z] [] (w1 hc 270 0 0))
    have k0 : ∀ e, e ≠ 270 → (w1 hc 270 0 0).1 e = hc.1 e := fun e he => w1_ne he
    have k5 : (w1 hc 270 0 0).1 270 5 = nI u := by rw [w1_at (by decide), c0 270 (by omega) (by omega), h5]
    generalize w1 hc 270 0 0 = q1 at k0 k5
    refine ⟨fun z => ?_, fun c => go_X9_undo_14 (by decide) ?_⟩
    · rw [k5] at z
      have := (nI_eq (a := u) (b := 0) (by omega) (by omega)).mp z
      omega
    have e5 : q1.1 270 5 - 1 = nI (u - 1) := by
      rw [k5, show u = u - 1 + 1 by omega]
      exact nI_pred _
    show lx_X9_undo 298 (tf_Cd 298 10) Q 26 [.ref 270, .int 0] [] (w1 q1 270 5 (q1.1 270 5 - 1))
    rw [e5]
    have x5 : (w1 q1 270 5 (nI (u - 1))).1 270 5 = nI (u - 1) := w1_eq
    have x0 : ∀ e, e ≠ 270 → (w1 q1 270 5 (nI (u - 1))).1 e = q1.1 e := fun e he => w1_ne he
    generalize w1 q1 270 5 (nI (u - 1)) = q2 at x5 x0
    have z0 : ∀ e, e ≠ 270 → q2.1 e = hc.1 e := fun e he => by rw [x0 e he, k0 e he]
    refine sp_unL (h := q2) (u := u - 1) (by omega) 170 0 q2 (by omega) x5 (fun _ _ => rfl) rfl (fun j hj => absurd hj (by omega)) (fun _ _ => rfl) (fun g x2 a1 a2 a3 a4 => go_X9_undo_60 (by decide) ?_)
    have g5 : g.1 270 5 = nI (u - 1) := by rw [a1 270 (by decide)]; exact x5
    have ge : ∀ e, e < 276 → e ≠ 270 → e ≠ 271 → g.1 e = hc.1 e := fun e z1 z2 z3 => by rw [a1 e z3, z0 e z2]
    rw [g5]
    refine q _ g ⟨rfl, ?_, ?_, ?_⟩
    · refine ((N1.cl (g := g) (fun o ho => ge _ (by omega) (by omega) (by omega))).rw (fun i hi => ?_)).up (by omega)
      rw [sl_at, a3 i hi, z0 274 (by decide), c0 274 (by omega) (by omega)]
    · refine ⟨s, u - 1, hs, by omega, by rw [ge 240 (by omega) (by omega) (by omega), C.1 240 (by omega), w8], by rw [ge 240 (by omega) (by omega) (by omega), C.1 240 (by omega), w9], g5, fun i hi => ?_⟩
      have o := h6 i (by omega)
      have ix : (s + 11 - (u - 1) + i) % 11 = (tt + 11 - u + i) % 11 := by omega
      rw [ix]
      refine ((o.cl (g := g) (fun o ho => by rw [ge _ (by omega) (by omega) (by omega), c0 _ (by omega) (by omega)])).rw (fun j hj => ?_)).up (by omega)
      rw [sl_at, sl_at, ge 274 (by omega) (by omega) (by omega), c0 274 (by omega) (by omega)]
    · refine (MI.same (fun e z1 z2 => by rw [ge e (by omega) (by omega) (by omega), c0 e (by omega) (by omega)]) (by rw [ge 273 (by omega) (by omega) (by omega), c0 273 (by omega) (by omega)]) (fun ix z1 z2 => ?_)).up (by omega)
      rw [a4 ix (by omega), z0 271 (by decide), c0 271 (by omega) (by omega)]
end RRU
