/-! ===== texts and faults alike: spell, lay, work, image, again; fault ===== -/
section IXM
variable {h g k : LH} {M N t : Nat}
theorem et_0 (I : IX h t) (x : Int64) : lk_sp h 181 [.ref 240, .long x] 8 [.ref 270, .long x] (fun g => ET g) := by
  obtain ⟨⟨⟨X, R⟩, e1, e2, e3⟩, t1, ⟨t2, t2'⟩, t3⟩ := I
  obtain ⟨l, hl, el⟩ := (X.2 0 (by omega)).2
  have el : h.1 251 1 = nI l := el
  have r1 := sy_X (x := x) hl el
  have em : h.1 271 (170 : Int32).toNatClampNeg = nI l := e2.symm.trans el
  by_cases c : l + sy_n x ≤ 400
  · rw [if_pos c] at r1
    obtain ⟨-, Fg⟩ := sy_puts_ci (x := x) (sy_n x) 0 h l X el c
    have Kg : ∀ e, e ≠ 251 ∧ e ≠ 252 → (sy_puts x 0 (sy_n x) h).1 e = h.1 e := fun e he => sy_puts_out he _ _ _
    have k2 := sy_puts_f (x := x) (c := 2) (by decide) (sy_n x) 0 h
    have k3 := sy_puts_f (x := x) (c := 3) (by decide) (sy_n x) 0 h
    have TT : ∀ k0 : LH, k0.1 272 = h.1 272 → k0.1 271 (170 : Int32).toNatClampNeg = nI l → Tx (sy_puts x 0 (sy_n x) h) (sy_mputs x 0 (sy_n x) k0) := fun k0 z0 z1 => tx_puts (sy_n x) 0 l h k0 (by have := sy_n8 x; omega) (fun m hm => by rw [z0]; exact t1 m hm) el z1 c
    generalize sy_puts x 0 (sy_n x) h = g at r1 Fg Kg k2 k3 TT
    have emg : g.1 271 (170 : Int32).toNatClampNeg = nI l := by rw [Fg.1 271 (by decide)]; exact em
    have r2 := sy_M (x := x) hl emg
    rw [if_pos c] at r2
    have o0 : ∀ e, e ≠ 270 → (w1 g 270 0 0).1 e = g.1 e := fun e he => w1_ne he
    have em0 : (w1 g 270 0 0).1 271 (170 : Int32).toNatClampNeg = nI l := by rw [o0 271 (by decide)]; exact emg
    have TT := TT (w1 g 270 0 0) (by rw [o0 272 (by decide), Fg.1 272 (by decide)]) em0
    obtain ⟨-, fr, fx⟩ := sy_mputs_fr (x := x) (sy_n x) 0 (w1 g 270 0 0) l em0
    have ft : ∀ m, 400 ≤ m → (sy_mputs x 0 (sy_n x) (w1 g 270 0 0)).1 272 m = (w1 g 270 0 0).1 272 m := fun m hm => sy_mputs_t (sy_n x) 0 l _ m em0 c hm
    have r2 : tf_Rt 11 8 [.ref 270, .long x] g (.int (sy_ans x l)) (sy_mputs x 0 (sy_n x) (w1 g 270 0 0)) := r2
    generalize sy_mputs x 0 (sy_n x) (w1 g 270 0 0) = k at r2 TT fr fx ft
    have lo : ∀ e, e ≠ 270 → e ≠ 271 → e ≠ 272 → k.1 e = g.1 e := fun e h0 h1 h2 => (fr e h1 h2).trans (o0 e h0)
    have hx : ∀ ix, ix ≠ 170 → k.1 271 ix = h.1 271 ix := fun ix z => by rw [fx ix z, o0 271 (by decide), Fg.1 271 (by decide)]
    refine r1.sp ⟨⟨_, rfl⟩, r2.sp ⟨⟨_, rfl⟩, fun i hi => ?_, ⟨?_, ?_⟩, fun j hj hs => ?_⟩⟩
    · rw [lo 252 (by decide) (by decide) (by decide)]
      exact TT i hi
    · rw [lo 251 (by decide) (by decide) (by decide), k2, hx 171 (by decide)]
      exact t2
    · rw [lo 251 (by decide) (by decide) (by decide), k3, hx 172 (by decide)]
      exact t2'
    · rw [lo 273 (by decide) (by decide) (by decide), Fg.1 273 (by decide)] at hs
      obtain ⟨a1, a2, a3⟩ := t3 j hj hs
      refine ⟨fun i hi => ?_, ?_, ?_⟩
      · rw [lo _ (by omega) (by omega) (by omega), Kg _ (by omega), ft _ (by omega), o0 272 (by decide), Fg.1 272 (by decide)]
        exact a1 i hi
      · rw [lo _ (by omega) (by omega) (by omega), Kg _ (by omega), hx _ (by omega)]
        exact a2
      · rw [lo _ (by omega) (by omega) (by omega), Kg _ (by omega), hx _ (by omega)]
        exact a3
  · rw [if_neg c] at r1
    have r2 := sy_M (x := x) hl em
    rw [if_neg c] at r2
    have r2 : tf_Rt 11 8 [.ref 270, .long x] h (.int (sy_ans x l)) (w1 h 270 0 0) := r2
    have o0 : ∀ e, e ≠ 270 → (w1 h 270 0 0).1 e = h.1 e := fun e he => w1_ne he
    generalize w1 h 270 0 0 = k at r2 o0
    refine r1.sp ⟨⟨_, rfl⟩, r2.sp ⟨⟨_, rfl⟩, fun i hi => ?_, ⟨?_, ?_⟩, fun j hj hs => ?_⟩⟩
    · rw [o0 252 (by decide), o0 272 (by decide)]
      exact t1 i hi
    · rw [o0 251 (by decide), o0 271 (by decide)]
      exact t2
    · rw [o0 251 (by decide), o0 271 (by decide)]
      exact t2'
    · rw [o0 273 (by decide)] at hs
      rw [o0 (254 + 2 * j) (by omega), o0 (253 + 2 * j) (by omega), o0 271 (by decide), o0 272 (by decide)]
      exact t3 j hj hs
/-- lay and work: the fault is the same -/
theorem et_L {kx km M2 N2 : Nat} {As Bs : List Value} {r : Int32 × Int32} (I : IX h t) (c : CX kx As h M2 r) (q : ∀ g, (∀ e, 270 ≤ e → g.1 e = h.1 e) → RI g (8000 * t) → tf_Sp 11 km (.ref 270 :: Bs) g (fun v k => ((∃ x, v = .int x) ∧ LYd g k N2) ∧ (k.1 271 171, k.1 271 172) = r)) : lk_sp h kx (.ref 240 :: As) km (.ref 270 :: Bs) (fun g => ET g) := by
  refine tf_Sp.mp c (fun v g p => ?_)
  obtain ⟨⟨pv, X, F, p269, pp, p0⟩, pf⟩ := p
  refine ⟨pv, tf_Sp.mp (q g F.1 (I.1.1.2.hi (fun c h1 _ => F.1 c h1))) (fun w k z => ?_)⟩
  obtain ⟨⟨zv, R, Cm, q0, qi, q3, q2⟩, zf⟩ := z
  obtain ⟨t1, -, t3⟩ := I.2
  have f : k.1 273 = h.1 273 := q3.trans (F.1 273 (by decide))
  have e := zf.trans pf.symm
  have e1 : k.1 271 171 = g.1 251 2 := congrArg Prod.fst e
  have e2 : k.1 271 172 = g.1 251 3 := congrArg Prod.snd e
  refine ⟨zv, fun i hi => ?_, ⟨by rw [Cm 251 (by decide), e1], by rw [Cm 251 (by decide), e2]⟩, fun j hj hs => ?_⟩
  · rw [Cm _ (by omega), pp _ (by omega) (by omega), q2, F.1 272 (by decide)]
    exact t1 i hi
  · rw [f] at hs
    obtain ⟨a1, a2, a3⟩ := t3 j hj hs
    refine ⟨fun i hi => ?_, ?_, ?_⟩
    · rw [Cm _ (by omega), pp _ (by omega) (by omega), q2, F.1 272 (by decide)]
      exact a1 i hi
    · rw [Cm _ (by omega), pp _ (by omega) (by omega), qi _ (by omega) (by omega), F.1 271 (by decide)]
      exact a2
    · rw [Cm _ (by omega), pp _ (by omega) (by omega), qi _ (by omega) (by omega), F.1 271 (by decide)]
      exact a3
theorem et_1 (I : IX h t) : lk_sp h 182 [.ref 240] 24 [.ref 270] (fun g => ET g) := by
  obtain ⟨l, hl, el⟩ := (I.1.1.1.2 0 (by omega)).2
  have el : h.1 251 1 = nI l := el
  have em : h.1 271 170 = nI l := I.1.2.2.1.symm.trans el
  refine et_L (N2 := 8000 * t) I (cx_lay I.1.1.1 hl el) (fun g o R => ?_)
  have ec : ∀ i, i < l → h.1 252 i = (fun i => g.1 272 i &&& 255) i := fun i hi => by
    show _ = g.1 272 i &&& 255
    rw [o 272 (by decide)]
    exact I.2.1 i (by omega)
  refine ((rq_lay R).cj (rx_lay R hl (by rw [o 271 (by decide)]; exact em) rfl)).mp (fun v k p => ⟨p.1, ?_⟩)
  obtain ⟨s, Z, e, -⟩ := p.2
  rw [e, ← px_lay_eq hl Z]
  exact (cg_lay ec).symm
theorem et_11 (I : IX h t) (ht : t ≤ 511) : lk_sp h 192 [.ref 240] 69 [.ref 270] (fun g => ET g) := by
  obtain ⟨l, hl, el⟩ := (I.1.1.1.2 0 (by omega)).2
  have el : h.1 251 1 = nI l := el
  have em : h.1 271 170 = nI l := I.1.2.2.1.symm.trans el
  refine et_L (N2 := 8000 * t + 8000) I (cx_work I.1.1.1 (by omega) hl el) (fun g o R => ?_)
  have ec : ∀ i, i < l → h.1 252 i = (fun i => g.1 272 i &&& 255) i := fun i hi => by
    show _ = g.1 272 i &&& 255
    rw [o 272 (by decide)]
    exact I.2.1 i (by omega)
  refine ((rq_work R (by omega)).cj (rx_work R (by omega) hl (by rw [o 271 (by decide)]; exact em) rfl)).mp (fun v k p => ⟨p.1, ?_⟩)
  rw [p.2, ← px_wrk_eq hl]
  exact (cg_wrk ec).symm
theorem et_32 (I : IX h t) (x : Int32) : lk_sp h 211 [.ref 240, .int x] 114 [.ref 270, .int x] (fun g => ET g) := by
  obtain ⟨g0, r, X, F, -, -⟩ := pv_image I.1.1.1 x
  refine tf_Sp.mp ((r.sp (P := fun v g => (∃ y, v = .int y) ∧ CF h g) ⟨⟨_, rfl⟩, F⟩).cj (cp_image I.1.1.1 x)) (fun v g p => ⟨p.1.1, ?_⟩)
  obtain ⟨⟨-, F⟩, pg, pj⟩ := p
  obtain ⟨t1, t2, t3⟩ := I.2
  have f1 : g.1 271 = h.1 271 := F.1 271 (by decide)
  have f2 : g.1 272 = h.1 272 := F.1 272 (by decide)
  have f3 : g.1 273 = h.1 273 := F.1 273 (by decide)
  refine ((rq_image (I.1.1.2.hi (fun c h1 _ => F.1 c h1)) x).cj (rx_image x)).mp (fun w k p => ?_)
  obtain ⟨⟨pv, R, C, p0, pi⟩, q0, qj⟩ := p
  refine ⟨⟨_, pv⟩, ?_⟩
  by_cases c : rf_in x 0 2 = false
  · have e := pg c
    subst e
    exact I.2.call KF.rf CF.rf (p0 c)
  · obtain ⟨j, -, hj, ej⟩ := rf_in_t (l := 0) (u := 2) (by omega) (Bool.not_eq_false _ ▸ c) (by omega)
    obtain ⟨a0, ⟨a1, a2, a3⟩, a4⟩ := pj j (by omega) ej
    obtain ⟨b0, b1, b2, b3⟩ := qj j (by omega) ej
    obtain ⟨d1, -, -, -⟩ := pi j (by omega) ej
    refine ⟨fun i hi => ?_, ⟨?_, ?_⟩, fun i hi hs => ?_⟩
    · rw [C 252 (by decide), a0 252 (by omega) (by omega) (by omega) (by omega), b3 i (by omega), f2]
      exact t1 i hi
    · rw [C 251 (by decide), a0 251 (by omega) (by omega) (by omega) (by omega), b1 171 (by omega), f1]
      exact t2.1
    · rw [C 251 (by decide), a0 251 (by omega) (by omega) (by omega) (by omega), b1 172 (by omega), f1]
      exact t2.2
    · rw [C (254 + 2 * i) (by omega), C (253 + 2 * i) (by omega)]
      by_cases ij : i = j
      · subst ij
        refine ⟨fun m hm => ?_, ?_, ?_⟩
        · have := b2 m hm
          rw [Nat.mul_zero, Nat.zero_add] at this
          rw [a4 m hm, this, f2]
          exact t1 m hm
        · rw [a2, b0 171 (by omega), f1]
          exact t2.1
        · rw [a3, b0 172 (by omega), f1]
          exact t2.2
      · rw [d1 i, if_neg ij, f3] at hs
        obtain ⟨u1, u2, u3⟩ := t3 i hi hs
        refine ⟨fun m hm => ?_, ?_, ?_⟩
        · rw [a0 _ (by omega) (by omega) (by omega) (by omega), b3 _ (by omega), f2]
          exact u1 m hm
        · rw [a0 _ (by omega) (by omega) (by omega) (by omega), b1 _ (by omega), f1]
          exact u2
        · rw [a0 _ (by omega) (by omega) (by omega) (by omega), b1 _ (by omega), f1]
          exact u3
theorem et_33 (I : IX h t) (x : Int32) : lk_sp h 212 [.ref 240, .int x] 115 [.ref 270, .int x] (fun g => ET g) := by
  obtain ⟨g0, r, X, F, -, -, -, -⟩ := pv_again I.1.1.1 x
  refine tf_Sp.mp ((r.sp (P := fun v g => (∃ y, v = .int y) ∧ CF h g) ⟨⟨_, rfl⟩, F⟩).cj (cp_again I.1.1.1 x)) (fun v g p => ⟨p.1.1, ?_⟩)
  obtain ⟨⟨-, F⟩, pg, pj⟩ := p
  obtain ⟨t1, t2, t3⟩ := I.2
  obtain ⟨e1, -, -⟩ := I.1.2
  have f1 : g.1 271 = h.1 271 := F.1 271 (by decide)
  have f2 : g.1 272 = h.1 272 := F.1 272 (by decide)
  have f3 : g.1 273 = h.1 273 := F.1 273 (by decide)
  have ev : qv_img h x = (rf_in x 0 2 && !decide (g.1 273 x.toNatClampNeg = 0)) := by
    by_cases c1 : x < 0
    · simp [qv_img, rf_in, c1]
    · rw [rf_in3 c1, f3]
      by_cases c2 : (3 : Int32) ≤ x
      · simp [qv_img, c1, c2]
      · obtain ⟨j, hj, ej⟩ := vi_nI (vi_3 c1 c2)
        have hcl : x.toNatClampNeg = j := by rw [ej]; exact nI_clamp (by omega)
        simp [qv_img, c1, c2, hcl, e1 j hj]
  refine ((rq_again (I.1.1.2.hi (fun c h1 _ => F.1 c h1)) x).cj (rx_again x)).mp (fun w k p => ?_)
  obtain ⟨⟨pv, R, C, p3, p0, -, -⟩, q0, qj⟩ := p
  refine ⟨⟨_, pv⟩, ?_⟩
  by_cases c : qv_img h x = false
  · have e := pg c
    subst e
    exact I.2.call KF.rf CF.rf (p0 (ev ▸ c))
  · have c : qv_img h x = true := by simpa using c
    obtain ⟨j, hj, ej⟩ := vi_nI (img_in c)
    have hcl : x.toNatClampNeg = j := by rw [ej]; exact nI_clamp (by omega)
    have hne : h.1 269 j ≠ 0 := by
      have c2 := c
      simp only [qv_img, Bool.and_eq_true, Bool.not_eq_true', decide_eq_false_iff_not, hcl] at c2
      exact c2.2.2
    have hne3 : h.1 273 j ≠ 0 := by rw [← e1 j hj]; exact hne
    obtain ⟨a0, ⟨a1, a2, a3⟩, a4⟩ := pj j hj ej hne
    obtain ⟨b0, b1, b2, b3⟩ := qj j hj ej (by rw [f3]; exact hne3)
    obtain ⟨u1, u2, u3⟩ := t3 j hj hne3
    refine ⟨fun i hi => ?_, ⟨?_, ?_⟩, fun i hi hs => ?_⟩
    · have := b2 i hi
      rw [Nat.mul_zero, Nat.zero_add] at this
      rw [C 252 (by decide), a4 i hi, this, f2]
      exact u1 i hi
    · rw [C 251 (by decide), a2, b0 171 (by omega), f1]
      exact u2
    · rw [C 251 (by decide), a3, b0 172 (by omega), f1]
      exact u3
    · rw [p3, f3] at hs
      obtain ⟨v1, v2, v3⟩ := t3 i hi hs
      rw [C (254 + 2 * i) (by omega), C (253 + 2 * i) (by omega), a0 (254 + 2 * i) (by omega) (by omega), a0 (253 + 2 * i) (by omega) (by omega)]
      refine ⟨fun m hm => ?_, ?_, ?_⟩
      · rw [b3 _ (by omega), f2]
        exact v1 m hm
      · rw [b1 _ (by omega), f1]
        exact v2
      · rw [b1 _ (by omega), f1]
        exact v3
theorem ix_0 (I : IX h t) (x : Int64) : lk_sp h 181 [.ref 240, .long x] 8 [.ref 270, .long x] (fun g => IX g (t + 1)) := (iw_0 I.1 x).cj (et_0 I x)
theorem ix_1 (I : IX h t) : lk_sp h 182 [.ref 240] 24 [.ref 270] (fun g => IX g (t + 1)) := (iw_1 I.1).cj (et_1 I)
theorem ix_11 (I : IX h t) (ht : t ≤ 511) : lk_sp h 192 [.ref 240] 69 [.ref 270] (fun g => IX g (t + 1)) := (iw_11 I.1 ht).cj (et_11 I ht)
theorem ix_32 (I : IX h t) (x : Int32) : lk_sp h 211 [.ref 240, .int x] 114 [.ref 270, .int x] (fun g => IX g (t + 1)) := (iw_32 I.1 x).cj (et_32 I x)
theorem ix_33 (I : IX h t) (x : Int32) : lk_sp h 212 [.ref 240, .int x] 115 [.ref 270, .int x] (fun g => IX g (t + 1)) := (iw_33 I.1 x).cj (et_33 I x)
/-- fault answers alike -/
theorem xe_2 (I : IX h t) (x : Int32) : lk_eq h 183 [.ref 240, .int x] 25 [.ref 270, .int x] (fun g => IX g (t + 1)) := by
  have r1 : tf_Rt 11 183 [.ref 240, .int x] h (.int (if x = 0 then h.1 251 2 else h.1 251 3)) h := by
    intro Q q
    refine en_X8_fault (by decide) (go_X8_fault_0 (by decide) ⟨fun z => go_X8_fault_14 (by decide) (go_X8_fault_21 (by decide) ?_), fun z => go_X8_fault_21 (by decide) ?_⟩)
    · rw [if_pos z] at q
      exact q
    · rw [if_neg z] at q
      exact q
  have r2 : tf_Sp 11 25 [.ref 270, .int x] h (fun w _ => w = .int (if x = 0 then h.1 251 2 else h.1 251 3)) := by
    intro Q q
    obtain ⟨-, ⟨t2, t2'⟩, -⟩ := I.2
    refine en_X9_fault (by decide) (go_X9_fault_0 (by decide) ⟨fun z => go_X9_fault_20 (by decide) (go_X9_fault_28 (by decide) (q _ _ ?_)), fun z => go_X9_fault_28 (by decide) (q _ _ ?_)⟩)
    · rw [if_pos z, t2]
      rfl
    · rw [if_neg z, t2']
      rfl
  exact r1.sp ⟨_, rfl, (r2.cj (rq_fault I.1.1.2 x)).mp (fun w k p => ⟨p.1, ⟨⟨(I.1.1.1.lo p.2.2.2.cf).mono (by omega), p.2.2.1.up (by omega)⟩, I.1.2.call KF.rf CF.rf p.2.2.2⟩, I.2.call KF.rf CF.rf p.2.2.2⟩)⟩
set_option maxRecDepth 100000 in
theorem st_et : (∀ i, i < 400 → tk_h.1 252 i = tk_h.1 272 i &&& 255) ∧ (tk_h.1 251 2 = tk_h.1 271 171 ∧ tk_h.1 251 3 = tk_h.1 271 172) := by decide +kernel
theorem st_ix : IX tk_h 0 := ⟨st_iw, st_et.1, st_et.2, fun j hj hs => absurd (st_er.2.2 j hj) hs⟩
end IXM
