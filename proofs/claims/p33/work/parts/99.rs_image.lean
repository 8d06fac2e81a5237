/-! ===== images, the text's signs on both sides: grids ===== -/
section RSI
variable {h g h2 h3 g1 g3 r r2 : LH} {b n k m t u M d : Nat}
theorem NZ.up {t2 : Nat} (Z : NZ h t) (ht : t ≤ t2) : NZ h t2 := ⟨Z.1.up ht, Z.2.1.up ht, Z.2.2.up ht⟩
/-- no grid was touched -/
theorem NZ.fr (Z : NZ h t) (fe : ∀ e, e < 241 → ¬ (15 ≤ e ∧ e < 30) → g.1 e = h.1 e) (f1 : ∀ ix, ix < 692 → ix % 173 < 170 → g.1 271 ix = h.1 271 ix) (f5 : g.1 270 5 = h.1 270 5) (f4 : g.1 274 = h.1 274) (f3 : g.1 273 = h.1 273) : NZ g (t + 1) := by
  obtain ⟨N, U, I⟩ := Z
  obtain ⟨tt, u, h1, h2, h3, h4, h5, h6⟩ := id U
  refine ⟨((N.cl (fun o ho => fe _ (by omega) (by omega))).rw (fun i hi => f1 i (by omega) (by omega))).up (by omega), (U.no h3 h1 (by rw [fe 240 (by omega) (by omega)]) (by rw [fe 240 (by omega) (by omega)]) (fun e z1 z2 z3 => fe e (by omega) (by omega)) f5 f4).up (by omega), MZ.up (t := t) (fun j hj hs => ?_) (by omega)⟩
  rw [f3] at hs
  exact ((I j hj hs).cl (fun o ho => fe _ (by omega) (by omega))).rw (fun i hi => by rw [sl_at, sl_at]; exact f1 _ (by omega) (by omega))
theorem zz_32 (I : IZ h t) (x : Int32) : lk_sp h 211 [.ref 240, .int x] 114 [.ref 270, .int x] (fun g => NZ g (t + 1)) := by
  have X := I.2.1.1.1
  obtain ⟨N, U, MI⟩ := id I.1
  have out : ¬ rf_in x 0 2 = true → tf_Sp 11 114 [.ref 270, .int x] h (fun w g => (∃ y, w = .int y) ∧ NZ g (t + 1)) := by
    intro cx Q q
    refine en_X9_image (by decide) (go_X9_image_0 (by decide) ?_)
    refine sx_in (d := 9) _ _ _ _ (go_X9_image_11 (by decide) ⟨fun _ => q _ _ ⟨⟨_, rfl⟩, NZ.nn I.1 (fun e h1 _ => ?_) ?_⟩, fun c => absurd ?_ c⟩)
    · exact w1_ne (h := h) (c := 270) h1
    · exact w1_at (h := h) (c := 270) (by decide)
    · rw [bI_0]
      exact Bool.eq_false_iff.mpr cx
  by_cases c1 : x < 0
  · have rC : tf_Rt 11 211 [.ref 240, .int x] h (.int 0) h := fun Q q => en_X8_image (by decide) (go_X8_image_0 (by decide) ⟨fun _ => go_X8_image_9 (by decide) q, fun z => absurd c1 z⟩)
    exact rC.sp ⟨⟨_, rfl⟩, out (by unfold rf_in; simp [c1])⟩
  by_cases c2 : x < 3
  · have hx : vp_in x 3 := vi_3 c1 (Int32.not_le.mpr c2)
    obtain ⟨j, hj, ej⟩ := vi_nI hx
    have hcl : x.toNatClampNeg = j := by rw [ej]; exact nI_clamp (by omega)
    have s1 := sx_ncp (d := 8) (h := h) (b := 15 * (j + 13)) (c := 0) (tf_K15 (r := j + 13) (by omega)) (by decide +kernel) (by omega)
    have C := nt_cp_ok (h := h) (b := 15 * (j + 13)) (c := 0) (tf_K15 (r := j + 13) (by omega)) (by decide +kernel) (by omega)
    have NI : NX (nt_cp h (15 * (j + 13)) 0) (15 * (j + 13)) h t := N.cp C (tf_K15 (r := j + 13) (by omega))
    generalize nt_cp h (15 * (j + 13)) 0 = g1 at s1 C NI
    have P1 : PGS g1 := X.2.same (fun e h1 h2 => C.1 e (by omega))
    have s2 := sx_pcp (d := 9) (i := j + 1) (j := 0) (by omega) (by omega) P1
    obtain ⟨P2, L2, E2⟩ := pg_cp_ok (i := j + 1) (j := 0) (by omega) (by omega) P1
    generalize pg_cp g1 (251 + 2 * (j + 1)) (251 + 2 * 0) = g2 at s2 P2 L2 E2
    have rC : tf_Rt 11 211 [.ref 240, .int x] h (.int 1) (w1 g2 269 j (vp_nar .boolean 1)) := by
      intro Q q
      refine en_X8_image (by decide) (go_X8_image_0 (by decide) ⟨fun z => absurd z c1, fun _ => ⟨fun _ => go_X8_image_11 (by decide) ⟨hx, ?_⟩, fun z => absurd c2 z⟩⟩)
      rw [hcl, tf_R267 j hj]
      refine s1 _ (go_X8_image_24 (by decide) ⟨hx, ?_⟩)
      rw [hcl, pg_R j hj]
      have e3 : 253 + 2 * j = 251 + 2 * (j + 1) := by omega
      rw [e3]
      refine s2 _ (go_X8_image_37 (by decide) ⟨hx, ?_⟩)
      rw [hcl]
      exact q
    refine rC.sp ⟨⟨_, rfl⟩, ?_⟩
    have w0 : ∀ e, e ≠ 269 → (w1 g2 269 j (vp_nar .boolean 1)).1 e = g2.1 e := fun e he => w1_ne he
    generalize w1 g2 269 j (vp_nar .boolean 1) = hc at w0
    have c0 : ∀ e, e < 251 ∨ 270 ≤ e → hc.1 e = g1.1 e := fun e he => by rw [w0 e (by omega), L2 e (by omega)]
    have ch : ∀ e, e < 251 ∨ 270 ≤ e → ¬ (15 * (j + 13) ≤ e ∧ e < 15 * (j + 13) + 15) → hc.1 e = h.1 e := fun e he h2 => by rw [c0 e he, C.1 e h2]
    intro Q q
    refine en_X9_image (by decide) (go_X9_image_0 (by decide) ?_)
    show tf_Cd 298 10 _ _ (w1 hc 270 0 0) _
    have k0 : ∀ e, e ≠ 270 → (w1 hc 270 0 0).1 e = hc.1 e := fun e he => w1_ne he
    have k5 : (w1 hc 270 0 0).1 270 5 = h.1 270 5 := by rw [w1_at (by decide), ch 270 (by omega) (by omega)]
    generalize w1 hc 270 0 0 = q1 at k0 k5
    subst ej
    have inn : rf_in (nI j) 0 2 = true := by
      have d1 : ¬ nI j < 0 := nI_pos (by omega)
      have d2 : ¬ (2 : Int32) < nI j := nI_nlt (a := 2) (by omega) (by omega)
      simp [rf_in, d1, d2]
    refine sx_in (d := 9) _ _ _ _ (go_X9_image_11 (by decide) ⟨fun c => ?_, fun c => go_X9_image_16 (by decide) ?_⟩)
    · rw [bI_0, inn] at c
      cases c
    rw [nI_1]
    refine sp_ct (d := 8) (a := 0) (b := j + 1) (by omega) (by omega) (by omega) _ (fun v g p => go_X9_image_24 (by decide) ⟨vi_of (by omega) (by omega), ?_⟩)
    rw [nI_clamp (by omega)]
    obtain ⟨p1, p2, p3, p4⟩ := p
    have x3 : ∀ i, i ≠ j → (w1 g 273 j (vp_nar .boolean 1)).1 273 i = h.1 273 i := fun i hi => by rw [w1_at hi, p1 273 (by decide) (by decide), k0 273 (by decide), ch 273 (by omega) (by omega)]
    have x0 : ∀ e, e ≠ 273 → (w1 g 273 j (vp_nar .boolean 1)).1 e = g.1 e := fun e he => w1_ne he
    show Q _ (w1 g 273 j (vp_nar .boolean 1))
    generalize w1 g 273 j (vp_nar .boolean 1) = k2 at x3 x0
    have kc : ∀ e, e < 241 → k2.1 e = g1.1 e := fun e he => by rw [x0 e (by omega), p1 e (by omega) (by omega), k0 e (by omega), c0 e (by omega)]
    have kh : ∀ e, e < 241 → ¬ (15 * (j + 13) ≤ e ∧ e < 15 * (j + 13) + 15) → k2.1 e = h.1 e := fun e h1 h2 => by rw [kc e h1, C.1 e h2]
    have q71 : q1.1 271 = h.1 271 := by rw [k0 271 (by decide), ch 271 (by omega) (by omega)]
    have k71 : ∀ ix, ¬ (173 * (j + 1) ≤ ix ∧ ix < 173 * (j + 1) + 173) → k2.1 271 ix = h.1 271 ix := fun ix hx => by rw [x0 271 (by decide), p4 ix hx, q71]
    have new : ∀ y, y < 173 → k2.1 271 (173 * (j + 1) + y) = h.1 271 y := fun y hy => by rw [x0 271 (by decide), p3 y hy, Nat.mul_zero, Nat.zero_add, q71]
    have k55 : k2.1 270 5 = h.1 270 5 := by rw [x0 270 (by decide), p1 270 (by decide) (by decide), k5]
    have k74 : k2.1 274 = h.1 274 := by rw [x0 274 (by decide), p1 274 (by decide) (by decide), k0 274 (by decide), ch 274 (by omega) (by omega)]
    obtain ⟨tt, u, h1, h2, h3, h4, h5, h6⟩ := id U
    refine q _ k2 ⟨⟨_, rfl⟩, ((N.cl (fun o ho => kh _ (by omega) (by omega))).rw (fun i hi => k71 i (by omega))).up (by omega), (U.no h3 h1 (by rw [kh 240 (by omega) (by omega)]) (by rw [kh 240 (by omega) (by omega)]) (fun e z1 z2 z3 => kh e (by omega) (by omega)) k55 k74).up (by omega), MZ.up (t := t) (fun i hi hs => ?_) (by omega)⟩
    by_cases ij : i = j
    · subst ij
      rw [show 13 + i = i + 13 by omega]
      exact (NI.cl (fun o ho => kc _ (by omega))).rw (fun y hy => by rw [sl_at]; exact new y (by omega))
    · rw [x3 i ij] at hs
      exact ((MI i hi hs).cl (fun o ho => kh _ (by omega) (by omega))).rw (fun y hy => by rw [sl_at, sl_at]; exact k71 _ (by omega))
  · have rC : tf_Rt 11 211 [.ref 240, .int x] h (.int 0) h := fun Q q => en_X8_image (by decide) (go_X8_image_0 (by decide) ⟨fun z => absurd z c1, fun _ => ⟨fun z => absurd z c2, fun _ => go_X8_image_9 (by decide) q⟩⟩)
    refine rC.sp ⟨⟨_, rfl⟩, out (fun z => ?_)⟩
    obtain ⟨j, -, hj, ej⟩ := rf_in_t (l := 0) (u := 2) (by omega) z (by omega)
    rw [ej] at c2
    exact c2 (nI_lt (a := j) (b := 3) (by omega) (by omega))
theorem zz_33 (I : IZ h t) (x : Int32) : lk_sp h 212 [.ref 240, .int x] 115 [.ref 270, .int x] (fun g => NZ g (t + 1)) := by
  have X := I.2.1.1.1
  obtain ⟨e1, -, -⟩ := I.2.1.2
  obtain ⟨N, U, MI⟩ := id I.1
  have s0 := sx_hasImg (h := h) (d := 9) x
  have ev : qv_img h x = (rf_in x 0 2 && !decide (h.1 273 x.toNatClampNeg = 0)) := by
    by_cases c1 : x < 0
    · simp [qv_img, rf_in, c1]
    · rw [rf_in3 c1]
      by_cases c2 : (3 : Int32) ≤ x
      · simp [qv_img, c1, c2]
      · obtain ⟨j, hj, ej⟩ := vi_nI (vi_3 c1 c2)
        have hcl : x.toNatClampNeg = j := by rw [ej]; exact nI_clamp (by omega)
        simp [qv_img, c1, c2, hcl, e1 j hj]
  by_cases c : qv_img h x = true
  · have hx := img_in c
    obtain ⟨j, hj, ej⟩ := vi_nI hx
    have hcl : x.toNatClampNeg = j := by rw [ej]; exact nI_clamp (by omega)
    have hne3 : h.1 273 j ≠ 0 := by
      rw [ev, hcl] at c
      simp only [Bool.and_eq_true, Bool.not_eq_true', decide_eq_false_iff_not] at c
      exact c.2
    have s1 := sx_ncp (d := 8) (h := h) (b := 0) (c := 15 * (j + 13)) (by decide +kernel) (tf_K15 (r := j + 13) (by omega)) (by omega)
    have C := nt_cp_ok (h := h) (b := 0) (c := 15 * (j + 13)) (by decide +kernel) (tf_K15 (r := j + 13) (by omega)) (by omega)
    have NJ := MI j hj hne3
    rw [show 13 + j = j + 13 by omega] at NJ
    have N1 : NX (nt_cp h 0 (15 * (j + 13))) 0 (sl h 271 (173 * (j + 1))) t := NJ.cp C (by decide +kernel)
    generalize nt_cp h 0 (15 * (j + 13)) = g1 at s1 C N1
    have P1 : PGS g1 := X.2.same (fun e h1 h2 => C.1 e (by omega))
    have s2 := sx_pcp (d := 9) (i := 0) (j := j + 1) (by omega) (by omega) P1
    obtain ⟨P2, L2, E2⟩ := pg_cp_ok (i := 0) (j := j + 1) (by omega) (by omega) P1
    generalize pg_cp g1 (251 + 2 * 0) (251 + 2 * (j + 1)) = g2 at s2 P2 L2 E2
    have rC : tf_Rt 11 212 [.ref 240, .int x] h (.int 1) (w1 g2 240 9 0) := by
      intro Q q
      refine en_X8_again (by decide) (go_X8_again_0 (by decide) (s0 _ (go_X8_again_5 (by decide) ⟨fun z => ?_, fun _ => go_X8_again_10 (by decide) ⟨hx, ?_⟩⟩)))
      · rw [bI_0, c] at z
        exact absurd z (by decide)
      · rw [hcl, tf_R267 j hj]
        refine s1 _ (go_X8_again_23 (by decide) ⟨hx, ?_⟩)
        rw [hcl, pg_R j hj]
        have e3 : 253 + 2 * j = 251 + 2 * (j + 1) := by omega
        rw [e3]
        exact s2 _ (go_X8_again_36 (by decide) q)
    refine rC.sp ⟨⟨_, rfl⟩, ?_⟩
    have w0 : ∀ e, e ≠ 240 → (w1 g2 240 9 0).1 e = g2.1 e := fun e he => w1_ne he
    have w9 : (w1 g2 240 9 0).1 240 9 = nI 0 := w1_eq
    have w8 : (w1 g2 240 9 0).1 240 8 = h.1 240 8 := by rw [w1_at (by decide), L2 240 (by omega), C.1 240 (by omega)]
    generalize w1 g2 240 9 0 = hc at w0 w9 w8
    have c0 : ∀ e, e < 240 ∨ 270 ≤ e → hc.1 e = g1.1 e := fun e he => by rw [w0 e (by omega), L2 e (by omega)]
    have ch : ∀ e, (15 ≤ e ∧ e < 240) ∨ 270 ≤ e → hc.1 e = h.1 e := fun e he => by rw [c0 e (by omega), C.1 e (by omega)]
    intro Q q
    refine en_X9_again (by decide) (go_X9_again_0 (by decide) ?_)
    show tf_Cd 298 10 _ _ (w1 hc 270 0 0) _
    have k0 : ∀ e, e ≠ 270 → (w1 hc 270 0 0).1 e = hc.1 e := fun e he => w1_ne he
    generalize w1 hc 270 0 0 = q1 at k0
    subst ej
    have inn : rf_in (nI j) 0 2 = true := by
      have d1 : ¬ nI j < 0 := nI_pos (by omega)
      have d2 : ¬ (2 : Int32) < nI j := nI_nlt (a := 2) (by omega) (by omega)
      simp [rf_in, d1, d2]
    refine sx_in (d := 9) _ _ _ _ (go_X9_again_11 (by decide) ⟨fun c => ?_, fun c => ?_⟩)
    · rw [bI_0, inn] at c
      cases c
    rw [hcl]
    refine ⟨vi_of (by omega) (by omega), fun c2 => ?_, fun c2 => go_X9_again_25 (by decide) ?_⟩
    · rw [k0 273 (by decide), ch 273 (by omega)] at c2
      exact absurd c2 hne3
    rw [nI_1]
    refine sp_ct (d := 8) (a := j + 1) (b := 0) (by omega) (by omega) (by omega) _ (fun v g p => go_X9_again_33 (by decide) ?_)
    obtain ⟨p1, p2, p3, p4⟩ := p
    have x5 : (w1 g 270 5 0).1 270 5 = nI 0 := w1_eq
    have x0 : ∀ e, e ≠ 270 → (w1 g 270 5 0).1 e = g.1 e := fun e he => w1_ne he
    show Q _ (w1 g 270 5 0)
    generalize w1 g 270 5 0 = k2 at x5 x0
    have kc : ∀ e, e < 276 → e ≠ 270 → e ≠ 271 → e ≠ 272 → k2.1 e = hc.1 e := fun e h1 h2 h3 h4 => by rw [x0 e h2, p1 e h3 h4, k0 e h2]
    have q71 : q1.1 271 = h.1 271 := by rw [k0 271 (by decide), ch 271 (by omega)]
    have hi : ∀ ix, 173 ≤ ix → k2.1 271 ix = h.1 271 ix := fun ix h1 => by rw [x0 271 (by decide), p4 _ (by omega), q71]
    have new : ∀ y, y < 173 → k2.1 271 y = h.1 271 (173 * (j + 1) + y) := fun y hy => by
      have := p3 y hy
      rw [Nat.mul_zero, Nat.zero_add] at this
      rw [x0 271 (by decide), this, q71]
    obtain ⟨tt, u, h1, h2, h3, h4, h5, h6⟩ := id U
    refine q _ k2 ⟨⟨_, rfl⟩, ((N1.cl (fun o ho => by rw [kc _ (by omega) (by omega) (by omega) (by omega), c0 _ (by omega)])).rw (fun i hi => by rw [sl_at]; exact new i (by omega))).up (by omega), ⟨tt, 0, h1, by omega, by rw [kc 240 (by omega) (by omega) (by omega) (by omega), w8, h3], by rw [kc 240 (by omega) (by omega) (by omega) (by omega), w9], x5, fun i hi => absurd hi (by omega)⟩, (MI.same (fun e z1 z2 => by rw [kc e (by omega) (by omega) (by omega) (by omega), ch e (by omega)]) (by rw [kc 273 (by omega) (by omega) (by omega) (by omega), ch 273 (by omega)]) (fun ix z1 z2 => hi ix z1)).up (by omega)⟩
  · have rC : tf_Rt 11 212 [.ref 240, .int x] h (.int 0) h := fun Q q => en_X8_again (by decide) (go_X8_again_0 (by decide) (s0 _ (go_X8_again_5 (by decide) ⟨fun _ => q, fun z => absurd (by rw [bI_0]; exact Bool.eq_false_iff.mpr c) z⟩)))
    refine rC.sp ⟨⟨_, rfl⟩, ?_⟩
    rw [Bool.not_eq_true, ev] at c
    intro Q q
    refine en_X9_again (by decide) (go_X9_again_0 (by decide) ?_)
    show tf_Cd 298 10 _ _ (w1 h 270 0 0) _
    have k0 : ∀ e, e ≠ 270 → (w1 h 270 0 0).1 e = h.1 e := fun e he => w1_ne he
    have k5 : (w1 h 270 0 0).1 270 5 = h.1 270 5 := w1_at (by decide)
    generalize w1 h 270 0 0 = q1 at k0 k5
    have fin : lx_X9_again 298 (tf_Cd 298 10) Q 23 [.ref 270, .int x] [] q1 := go_X9_again_23 (by decide) (q _ _ ⟨⟨_, rfl⟩, NZ.nn I.1 (fun e h1 _ => k0 e h1) k5⟩)
    refine sx_in (d := 9) _ _ _ _ (go_X9_again_11 (by decide) ⟨fun c => fin, fun c1 => ?_⟩)
    rw [bI_0, Bool.not_eq_false] at c1
    obtain ⟨j, -, hj, ej⟩ := rf_in_t (l := 0) (u := 2) (by omega) c1 (by omega)
    subst ej
    have cj : (nI j).toNatClampNeg = j := nI_clamp (by omega)
    rw [cj] at c ⊢
    refine ⟨vi_of (by omega) (by omega), fun c2 => fin, fun c2 => absurd ?_ c2⟩
    rw [c1] at c
    rw [k0 273 (by decide)]
    simpa using c
end RSI
