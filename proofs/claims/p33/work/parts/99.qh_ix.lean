/-! ===== texts and faults alike, between the law's rounds ===== -/
section IXL
variable {h g k : LH} {M N t : Nat}
theorem pg_f_k {g : LH} {a b : Nat} (hab : b ≠ a) : (pg_f g a b).1 a 1 = g.1 b 1 ∧ (pg_f g a b).1 a 2 = g.1 b 2 ∧ (pg_f g a b).1 a 3 = g.1 b 3 := by
  unfold pg_f
  refine ⟨?_, ?_, ?_⟩
  · rw [w1_at (by decide), w1_at (by decide), w1_eq]
  · rw [w1_at (by decide), w1_eq, w1_ne hab]
  · rw [w1_eq, w1_ne hab, w1_ne hab]
/-- a page was copied -/
theorem pg_cp_k {i j : Nat} (hij : i ≠ j) : ((pg_cp h (251 + 2 * i) (251 + 2 * j)).1 (251 + 2 * i) 1 = h.1 (251 + 2 * j) 1 ∧ (pg_cp h (251 + 2 * i) (251 + 2 * j)).1 (251 + 2 * i) 2 = h.1 (251 + 2 * j) 2 ∧ (pg_cp h (251 + 2 * i) (251 + 2 * j)).1 (251 + 2 * i) 3 = h.1 (251 + 2 * j) 3) ∧ ∀ s, s < 400 → (pg_cp h (251 + 2 * i) (251 + 2 * j)).1 (252 + 2 * i) s = h.1 (252 + 2 * j) s := by
  unfold pg_cp
  obtain ⟨a, b, c⟩ := pg_f_k (g := cpH h (251 + 2 * j + 1) (251 + 2 * i + 1) 400) (a := 251 + 2 * i) (b := 251 + 2 * j) (by omega)
  rw [cpH_ne (by omega)] at a b c
  refine ⟨⟨a, b, c⟩, fun s hs => ?_⟩
  rw [pg_f_lo (by omega), show 252 + 2 * i = 251 + 2 * i + 1 by omega, cpH_in hs, show 252 + 2 * j = 251 + 2 * j + 1 by omega]
theorem cp_image (X : CI h M) (x : Int32) : tf_Sp 11 211 [.ref 240, .int x] h (fun _ g => (rf_in x 0 2 = false → g = h) ∧ ∀ j, j < 3 → x = nI j → (∀ e, 251 ≤ e → e < 259 → e ≠ 253 + 2 * j → e ≠ 254 + 2 * j → g.1 e = h.1 e) ∧ (g.1 (253 + 2 * j) 1 = h.1 251 1 ∧ g.1 (253 + 2 * j) 2 = h.1 251 2 ∧ g.1 (253 + 2 * j) 3 = h.1 251 3) ∧ ∀ i, i < 400 → g.1 (254 + 2 * j) i = h.1 252 i) := by
  intro Q q
  by_cases c1 : x < 0
  · exact en_X8_image (by decide) (go_X8_image_0 (by decide) ⟨fun _ => go_X8_image_9 (by decide) (q _ _ ⟨fun _ => rfl, fun j hj ej => absurd (ej ▸ c1) (nI_pos (by omega))⟩), fun z => absurd c1 z⟩)
  · by_cases c2 : x < 3
    · have hx : vp_in x 3 := vi_3 c1 (Int32.not_le.mpr c2)
      obtain ⟨j, hj, ej⟩ := vi_nI hx
      have hcl : x.toNatClampNeg = j := by rw [ej]; exact nI_clamp (by omega)
      obtain ⟨n, k, m, hm, H⟩ := X.1.net
      have s1 := sx_ncp (d := 8) (h := h) (b := 15 * (j + 13)) (c := 0) (tf_K15 (r := j + 13) (by omega)) (by decide +kernel) (by omega)
      have C := nt_cp_ok (h := h) (b := 15 * (j + 13)) (c := 0) (tf_K15 (r := j + 13) (by omega)) (by decide +kernel) (by omega)
      generalize nt_cp h (15 * (j + 13)) 0 = g1 at s1 C
      have P1 : PGS g1 := X.2.same (fun e h1 h2 => C.1 e (by omega))
      have s2 := sx_pcp (d := 9) (i := j + 1) (j := 0) (by omega) (by omega) P1
      obtain ⟨⟨f1, f2, f3⟩, ft⟩ := pg_cp_k (h := g1) (i := j + 1) (j := 0) (by omega)
      have O2 : ∀ e, e ≠ 251 + 2 * (j + 1) → e ≠ 251 + 2 * (j + 1) + 1 → (pg_cp g1 (251 + 2 * (j + 1)) (251 + 2 * 0)).1 e = g1.1 e := fun e h1 h2 => pg_cp_ne h1 h2
      generalize pg_cp g1 (251 + 2 * (j + 1)) (251 + 2 * 0) = g2 at s2 f1 f2 f3 ft O2
      have e1 : 251 + 2 * (j + 1) = 253 + 2 * j := by omega
      have e2 : 252 + 2 * (j + 1) = 254 + 2 * j := by omega
      rw [e1] at f1 f2 f3
      rw [e2] at ft
      refine en_X8_image (by decide) (go_X8_image_0 (by decide) ⟨fun z => absurd z c1, fun _ => ⟨fun _ => go_X8_image_11 (by decide) ⟨hx, ?_⟩, fun z => absurd c2 z⟩⟩)
      rw [hcl, tf_R267 j hj]
      refine s1 _ (go_X8_image_24 (by decide) ⟨hx, ?_⟩)
      rw [hcl, pg_R j hj, ← e1]
      refine s2 _ (go_X8_image_37 (by decide) ⟨hx, ?_⟩)
      rw [hcl]
      refine q _ (w1 g2 269 j (vp_nar .boolean 1)) ⟨fun z => ?_, fun j2 hj2 ej2 => ?_⟩
      · exfalso
        rw [rf_in3 c1] at z
        simp [Int32.not_le.mpr c2] at z
      · have ejj : j2 = j := by
          rw [ej2, nI_clamp (by omega)] at hcl
          exact hcl
        subst ejj
        have u0 : ∀ e, 251 ≤ e → e < 259 → g1.1 e = h.1 e := fun e h1 h2 => C.1 e (by omega)
        refine ⟨fun e h1 h2 h3 h4 => ?_, ⟨?_, ?_, ?_⟩, fun i hi => ?_⟩
        · rw [w1_ne (by omega), O2 e (by omega) (by omega), u0 e h1 h2]
        · rw [w1_ne (by omega), f1]
          show g1.1 251 1 = _
          rw [u0 251 (by omega) (by omega)]
        · rw [w1_ne (by omega), f2]
          show g1.1 251 2 = _
          rw [u0 251 (by omega) (by omega)]
        · rw [w1_ne (by omega), f3]
          show g1.1 251 3 = _
          rw [u0 251 (by omega) (by omega)]
        · rw [w1_ne (by omega), ft i hi]
          show g1.1 252 i = _
          rw [u0 252 (by omega) (by omega)]
    · refine en_X8_image (by decide) (go_X8_image_0 (by decide) ⟨fun z => absurd z c1, fun _ => ⟨fun z => absurd z c2, fun _ => go_X8_image_9 (by decide) (q _ _ ⟨fun _ => rfl, fun j hj ej => ?_⟩)⟩⟩)
      exfalso
      rw [ej] at c2
      exact c2 (nI_lt (a := j) (b := 3) (by omega) (by omega))
theorem cp_again (X : CI h M) (x : Int32) : tf_Sp 11 212 [.ref 240, .int x] h (fun _ g => (qv_img h x = false → g = h) ∧ ∀ j, j < 3 → x = nI j → h.1 269 j ≠ 0 → (∀ e, 253 ≤ e → e < 259 → g.1 e = h.1 e) ∧ (g.1 251 1 = h.1 (253 + 2 * j) 1 ∧ g.1 251 2 = h.1 (253 + 2 * j) 2 ∧ g.1 251 3 = h.1 (253 + 2 * j) 3) ∧ ∀ i, i < 400 → g.1 252 i = h.1 (254 + 2 * j) i) := by
  intro Q q
  have s0 := sx_hasImg (h := h) (d := 9) x
  by_cases c : qv_img h x = true
  · have hx := img_in c
    obtain ⟨j, hj, ej⟩ := vi_nI hx
    have hcl : x.toNatClampNeg = j := by rw [ej]; exact nI_clamp (by omega)
    have s1 := sx_ncp (d := 8) (h := h) (b := 0) (c := 15 * (j + 13)) (by decide +kernel) (tf_K15 (r := j + 13) (by omega)) (by omega)
    have C := nt_cp_ok (h := h) (b := 0) (c := 15 * (j + 13)) (by decide +kernel) (tf_K15 (r := j + 13) (by omega)) (by omega)
    generalize nt_cp h 0 (15 * (j + 13)) = g1 at s1 C
    have P1 : PGS g1 := X.2.same (fun e h1 h2 => C.1 e (by omega))
    have s2 := sx_pcp (d := 9) (i := 0) (j := j + 1) (by omega) (by omega) P1
    obtain ⟨⟨f1, f2, f3⟩, ft⟩ := pg_cp_k (h := g1) (i := 0) (j := j + 1) (by omega)
    have O2 : ∀ e, e ≠ 251 + 2 * 0 → e ≠ 251 + 2 * 0 + 1 → (pg_cp g1 (251 + 2 * 0) (251 + 2 * (j + 1))).1 e = g1.1 e := fun e h1 h2 => pg_cp_ne h1 h2
    generalize pg_cp g1 (251 + 2 * 0) (251 + 2 * (j + 1)) = g2 at s2 f1 f2 f3 ft O2
    have e1 : 251 + 2 * (j + 1) = 253 + 2 * j := by omega
    have e2 : 252 + 2 * (j + 1) = 254 + 2 * j := by omega
    rw [e1] at f1 f2 f3
    rw [e2] at ft
    have u0 : ∀ e, 251 ≤ e → e < 259 → g1.1 e = h.1 e := fun e h1 h2 => C.1 e (by omega)
    refine en_X8_again (by decide) (go_X8_again_0 (by decide) (s0 _ (go_X8_again_5 (by decide) ⟨fun z => ?_, fun _ => go_X8_again_10 (by decide) ⟨hx, ?_⟩⟩)))
    · rw [bI_0, c] at z
      exact absurd z (by decide)
    · rw [hcl, tf_R267 j hj]
      refine s1 _ (go_X8_again_23 (by decide) ⟨hx, ?_⟩)
      rw [hcl, pg_R j hj, ← e1]
      refine s2 _ (go_X8_again_36 (by decide) (q _ (w1 g2 240 9 0) ⟨fun z => absurd (c.symm.trans z) (by decide), fun j2 hj2 ej2 _ => ?_⟩))
      have ejj : j2 = j := by
        rw [ej2, nI_clamp (by omega)] at hcl
        exact hcl
      subst ejj
      refine ⟨fun e h1 h2 => ?_, ⟨?_, ?_, ?_⟩, fun i hi => ?_⟩
      · rw [w1_ne (by omega), O2 e (by omega) (by omega), u0 e (by omega) h2]
      · rw [w1_ne (by decide)]
        show g2.1 (251 + 2 * 0) 1 = _
        rw [f1, u0 _ (by omega) (by omega)]
      · rw [w1_ne (by decide)]
        show g2.1 (251 + 2 * 0) 2 = _
        rw [f2, u0 _ (by omega) (by omega)]
      · rw [w1_ne (by decide)]
        show g2.1 (251 + 2 * 0) 3 = _
        rw [f3, u0 _ (by omega) (by omega)]
      · rw [w1_ne (by decide)]
        show g2.1 (252 + 2 * 0) i = _
        rw [ft i hi, u0 _ (by omega) (by omega)]
  · have cf : qv_img h x = false := Bool.eq_false_iff.mpr c
    refine en_X8_again (by decide) (go_X8_again_0 (by decide) (s0 _ (go_X8_again_5 (by decide) ⟨fun _ => q _ _ ⟨fun _ => rfl, fun j hj ej hne => ?_⟩, fun z => absurd (by rw [bI_0]; exact cf) z⟩)))
    exfalso
    apply c
    rw [ej]
    have c1 : ¬ nI j < 0 := nI_pos (by omega)
    have c2 : ¬ (3 : Int32) ≤ nI j := nI_ge (a := j) (b := 3) (by omega) (by omega)
    simp [qv_img, c1, c2, nI_clamp (show j < 2147483648 by omega), hne]
/-- the texts and what was at fault last, and the images' -/
def ET (h : LH) : Prop := (∀ i, i < 400 → h.1 252 i = h.1 272 i &&& 255) ∧ (h.1 251 2 = h.1 271 171 ∧ h.1 251 3 = h.1 271 172) ∧ ∀ j, j < 3 → h.1 273 j ≠ 0 → (∀ i, i < 400 → h.1 (254 + 2 * j) i = h.1 272 (400 * (j + 1) + i) &&& 255) ∧ h.1 (253 + 2 * j) 2 = h.1 271 (173 * (j + 1) + 171) ∧ h.1 (253 + 2 * j) 3 = h.1 271 (173 * (j + 1) + 172)
def IX (h : LH) (t : Nat) : Prop := IW h t ∧ ET h
theorem ET.ext (E : ET h) (e : g.1 = h.1) : ET g := by
  unfold ET
  rw [e]
  exact E
theorem IX.up {t2 : Nat} (I : IX h t) (ht : t ≤ t2) : IX h t2 := ⟨I.1.up ht, I.2⟩
theorem IX.ext (I : IX h t) (e : g.1 = h.1) : IX g t := ⟨I.1.ext e, I.2.ext e⟩
theorem ET.call (E : ET h) (K : KF h g) (C : CF h g) (O : OF g k) : ET k := by
  obtain ⟨e1, ⟨e2, e2'⟩, e3⟩ := E
  have c : ∀ e, 251 ≤ e → e < 259 → k.1 e = h.1 e := fun e h1 h2 => (O.1 e (by omega)).trans (K.1 e h1 h2)
  have d : ∀ ix, 170 ≤ ix → ix < 692 → k.1 271 ix = h.1 271 ix := fun ix h1 h2 => (O.2.1 ix h1 h2).trans (by rw [C.1 271 (by decide)])
  have f : k.1 273 = h.1 273 := O.2.2.2.1.trans (C.1 273 (by decide))
  have i : k.1 272 = h.1 272 := O.2.2.1.trans (C.1 272 (by decide))
  refine ⟨fun m hm => by rw [c 252 (by decide) (by decide), i]; exact e1 m hm, ⟨by rw [c 251 (by decide) (by decide), d 171 (by decide) (by decide)]; exact e2, by rw [c 251 (by decide) (by decide), d 172 (by decide) (by decide)]; exact e2'⟩, fun j hj hs => ?_⟩
  rw [f] at hs
  obtain ⟨a1, a2, a3⟩ := e3 j hj hs
  refine ⟨fun m hm => ?_, ?_, ?_⟩
  · rw [c _ (by omega) (by omega), i]
    exact a1 m hm
  · rw [c _ (by omega) (by omega), d _ (by omega) (by omega)]
    exact a2
  · rw [c _ (by omega) (by omega), d _ (by omega) (by omega)]
    exact a3
theorem lk_sp.cj {kx km : Nat} {As Bs : List Value} {P1 P2 : LH → Prop} (a : lk_sp h kx As km Bs P1) (b : lk_sp h kx As km Bs P2) : lk_sp h kx As km Bs (fun g => P1 g ∧ P2 g) := (tf_Sp.cj a b).mp (fun _ _ p => ⟨p.1.1, (tf_Sp.cj p.1.2 p.2.2).mp (fun _ _ q => ⟨q.1.1, q.1.2, q.2.2⟩)⟩)
theorem lk_eq.cj {kx km : Nat} {As Bs : List Value} {P1 P2 : LH → Prop} (a : lk_eq h kx As km Bs P1) (b : lk_sp h kx As km Bs P2) : lk_eq h kx As km Bs (fun g => P1 g ∧ P2 g) := (tf_Sp.cj a b).mp (fun _ _ p => by
  obtain ⟨⟨x, e, p1⟩, -, p2⟩ := p
  exact ⟨x, e, (tf_Sp.cj p1 p2).mp (fun _ _ q => ⟨q.1.1, q.1.2, q.2.2⟩)⟩)
theorem ix_q {kx km M2 N2 : Nat} {As Bs : List Value} (I : IX h t) (c : CK kx As h M2) (r : ∀ g, RI g (8000 * t) → RQ km Bs g N2) (hM : M2 ≤ 2000000 * (t + 1)) (hN : N2 ≤ 8000 * (t + 1)) : lk_sp h kx (.ref 240 :: As) km (.ref 270 :: Bs) (fun g => IX g (t + 1)) := by
  obtain ⟨v, g, s, X, F, K⟩ := c
  exact s.sp ⟨⟨v, rfl⟩, tf_Sp.mp (r g (I.1.1.2.hi (fun c h1 _ => F.1 c h1))) (fun _ _ p => ⟨p.1, ⟨⟨(X.lo p.2.2.cf).mono hM, p.2.1.up hN⟩, I.1.2.call K F p.2.2⟩, I.2.call K F p.2.2⟩)⟩
theorem ix_ap {km N2 : Nat} {Bs : List Value} (I : IX h t) (r : RQ km Bs h N2) (hN : N2 ≤ 8000 * (t + 1)) : tf_Sp 11 km (.ref 270 :: Bs) h (fun v g => (∃ x, v = .int x) ∧ IX g (t + 1)) := tf_Sp.mp r (fun _ _ p => ⟨p.1, ⟨⟨(I.1.1.1.lo p.2.2.cf).mono (by omega), p.2.1.up hN⟩, I.1.2.call KF.rf CF.rf p.2.2⟩, I.2.call KF.rf CF.rf p.2.2⟩)
/-- a call that leaves texts and faults -/
theorem et_sp {kx km : Nat} {As Bs : List Value} {P : Value → LH → Prop} (E : ET h) (c : tf_Sp 11 kx As h (fun v g => (∃ x, v = .int x) ∧ P v g)) (r : ∀ v g, P v g → tf_Sp 11 km Bs g (fun w k => (∃ x, w = .int x) ∧ ET k)) : lk_sp h kx As km Bs (fun g => ET g) := c.mp (fun v g p => ⟨p.1, r v g p.2⟩)

theorem ix_22 (I : IX h t) (x y : Int32) : lk_sp h 201 [.ref 240, .int x, .int y] 86 [.ref 270, .int x, .int y] (fun g => IX g (t + 1)) := by
  obtain ⟨v, g, r, X, F⟩ := pq_wide I.1.1.1.1 x y
  obtain ⟨a, b⟩ := F.ci X I.1.1.1.2
  exact ix_q I ⟨v, g, r, a, b, F.kf⟩ (fun _ R => rq_wide R x y) (by omega) (by omega)
theorem ix_23 (I : IX h t) (x y : Int32) : lk_sp h 202 [.ref 240, .int x, .int y] 91 [.ref 270, .int x, .int y] (fun g => IX g (t + 1)) := by
  obtain ⟨v, g, r, X, F⟩ := pq_trip I.1.1.1.1 x y
  obtain ⟨a, b⟩ := F.ci X I.1.1.1.2
  exact ix_q I ⟨v, g, r, a, b, F.kf⟩ (fun _ R => rq_trip R x y) (by omega) (by omega)
theorem ix_2 (I : IX h t) (x : Int32) : lk_sp h 183 [.ref 240, .int x] 25 [.ref 270, .int x] (fun g => IX g (t + 1)) := by
  obtain ⟨v, r⟩ := pu_fault (h := h) x
  exact ix_q I (ck_0 I.1.1.1 r) (fun _ R => rq_fault R x) (by omega) (by omega)
theorem ix_3 (I : IX h t) (ht : t ≤ 511) : lk_sp h 184 [.ref 240] 54 [.ref 270] (fun g => IX g (t + 1)) := ix_q I (ck_r I.1.1.1.2 (pu_pivot I.1.1.1.1 (by omega))) (fun _ R => rq_pivot R (by omega)) (by omega) (by omega)
theorem ix_4 (I : IX h t) (ht : t ≤ 511) (x : Int32) : lk_sp h 185 [.ref 240, .int x] 55 [.ref 270, .int x] (fun g => IX g (t + 1)) := ix_q I (ck_r I.1.1.1.2 (pu_pivots I.1.1.1.1 (by omega) x)) (fun _ R => rq_pivots R (by omega) x) (by omega) (by omega)
theorem ix_6 (I : IX h t) (x y z : Int32) : lk_sp h 187 [.ref 240, .int x, .int y, .int z] 59 [.ref 270, .int x, .int y, .int z] (fun g => IX g (t + 1)) := ix_q I (ck_r I.1.1.1.2 (pu_shift I.1.1.1.1 x y z)) (fun _ R => rq_shift R x y z) (by omega) (by omega)
theorem ix_7 (I : IX h t) (x y : Int32) : lk_sp h 188 [.ref 240, .int x, .int y] 63 [.ref 270, .int x, .int y] (fun g => IX g (t + 1)) := ix_q I (ck_r I.1.1.1.2 (pu_block I.1.1.1.1 x y)) (fun _ R => rq_block R x y) (by omega) (by omega)
theorem ix_8 (I : IX h t) (x y : Int32) : lk_sp h 189 [.ref 240, .int x, .int y] 64 [.ref 270, .int x, .int y] (fun g => IX g (t + 1)) := ix_q I (ck_r I.1.1.1.2 (pu_widen I.1.1.1.1 x y)) (fun _ R => rq_widen R x y) (by omega) (by omega)
theorem ix_9 (I : IX h t) (x y : Int32) : lk_sp h 190 [.ref 240, .int x, .int y] 65 [.ref 270, .int x, .int y] (fun g => IX g (t + 1)) := ix_q I (ck_r I.1.1.1.2 (pu_charge I.1.1.1.1 x y)) (fun _ R => rq_charge R x y) (by omega) (by omega)
theorem ix_12 (I : IX h t) : lk_sp h 193 [.ref 240] 70 [.ref 270] (fun g => IX g (t + 1)) := ix_q I (ck_r I.1.1.1.2 (pu_undo I.1.1.1.1)) (fun _ R => rq_undo R) (by omega) (by omega)
theorem ix_13 (I : IX h t) (x : Int32) : lk_sp h 194 [.ref 240, .int x] 72 [.ref 270, .int x] (fun g => IX g (t + 1)) := by
  obtain ⟨n, k, m, hm, H⟩ := I.1.1.1.1.net
  exact ix_q I (ck_0 I.1.1.1 (pq_grid H.1 x)) (fun _ R => rq_grid R x) (by omega) (by omega)
theorem ix_16 (I : IX h t) (x : Int32) : lk_sp h 195 [.ref 240, .int x] 77 [.ref 270, .int x] (fun g => IX g (t + 1)) := by
  obtain ⟨n, k, m, hm, H⟩ := I.1.1.1.1.net
  exact ix_q I (ck_0 I.1.1.1 (pq_thread H.1 x)) (fun _ R => rq_thread R x) (by omega) (by omega)
theorem ix_17 (I : IX h t) (x y z : Int32) : lk_sp h 196 [.ref 240, .int x, .int y, .int z] 79 [.ref 270, .int x, .int y, .int z] (fun g => IX g (t + 1)) := ix_q I (ck_r I.1.1.1.2 (pq_path I.1.1.1.1 x y z)) (fun _ R => rq_path R x y z) (by omega) (by omega)
theorem ix_18 (I : IX h t) (x : Int32) : lk_sp h 197 [.ref 240, .int x] 80 [.ref 270, .int x] (fun g => IX g (t + 1)) := ix_q I (ck_r I.1.1.1.2 (pq_next I.1.1.1.1 x)) (fun _ R => rq_next R x) (by omega) (by omega)
theorem ix_19 (I : IX h t) (ht : t ≤ 511) (x y : Int32) : lk_sp h 198 [.ref 240, .int x, .int y] 81 [.ref 270, .int x, .int y] (fun g => IX g (t + 1)) := by
  obtain ⟨n, k, m, hm, H⟩ := I.1.1.1.1.net
  exact ix_q I (ck_0 I.1.1.1 (pq_past H (by omega) x y)) (fun _ R => rq_past R x y) (by omega) (by omega)
theorem ix_20 (I : IX h t) (x : Int32) : lk_sp h 199 [.ref 240, .int x] 83 [.ref 270, .int x] (fun g => IX g (t + 1)) := by
  obtain ⟨n, k, m, hm, H⟩ := I.1.1.1.1.net
  exact ix_q I (ck_0 I.1.1.1 (pq_bill H.1 x)) (fun _ R => rq_bill R x) (by omega) (by omega)
theorem ix_21 (I : IX h t) (x y : Int32) : lk_sp h 200 [.ref 240, .int x, .int y] 85 [.ref 270, .int x, .int y] (fun g => IX g (t + 1)) := by
  obtain ⟨n, k, m, hm, H⟩ := I.1.1.1.1.net
  exact ix_q I (ck_0 I.1.1.1 (pq_ledger H.1 x y)) (fun _ R => rq_ledger R x y) (by omega) (by omega)
theorem ix_24 (I : IX h t) (x : Int32) : lk_sp h 203 [.ref 240, .int x] 93 [.ref 270, .int x] (fun g => IX g (t + 1)) := ix_q I (ck_0 I.1.1.1 (pq_apart x)) (fun _ R => rq_apart R x) (by omega) (by omega)
theorem ix_25 (I : IX h t) (x y : Int32) : lk_sp h 204 [.ref 240, .int x, .int y] 94 [.ref 270, .int x, .int y] (fun g => IX g (t + 1)) := by
  obtain ⟨n, k, m, hm, H⟩ := I.1.1.1.1.net
  exact ix_q I (ck_0 I.1.1.1 (pq_span H.1 x y)) (fun _ R => rq_span R x y) (by omega) (by omega)
theorem ix_26 (I : IX h t) (ht : t ≤ 511) : lk_sp h 205 [.ref 240] 103 [.ref 270] (fun g => IX g (t + 1)) := ix_q I (ck_r I.1.1.1.2 (pq_least I.1.1.1.1 (by omega))) (fun _ R => rq_least R) (by omega) (by omega)
theorem ix_27 (I : IX h t) : lk_sp h 206 [.ref 240] 110 [.ref 270] (fun g => IX g (t + 1)) := by
  obtain ⟨n, k, m, hm, H⟩ := I.1.1.1.1.net
  exact ix_q I (ck_0 I.1.1.1 (pq_lack H.1)) (fun _ R => rq_lack R) (by omega) (by omega)
theorem ix_28 (I : IX h t) : lk_sp h 207 [.ref 240] 109 [.ref 270] (fun g => IX g (t + 1)) := by
  obtain ⟨n, k, m, hm, H⟩ := I.1.1.1.1.net
  exact ix_q I (ck_0 I.1.1.1 (pq_cut H.1)) (fun _ R => rq_cut R) (by omega) (by omega)
theorem ix_29 (I : IX h t) (ht : t ≤ 511) (x : Int32) : lk_sp h 208 [.ref 240, .int x] 111 [.ref 270, .int x] (fun g => IX g (t + 1)) := ix_q I (ck_r I.1.1.1.2 (pq_steps I.1.1.1.1 (by omega) x)) (fun _ R => rq_steps R (by omega) x) (by omega) (by omega)
theorem ix_30 (I : IX h t) (ht : t ≤ 511) (x y : Int32) : lk_sp h 209 [.ref 240, .int x, .int y] 105 [.ref 270, .int x, .int y] (fun g => IX g (t + 1)) := ix_q I (ck_r I.1.1.1.2 (pq_worth I.1.1.1.1 (by omega) x y)) (fun _ R => rq_worth R x y) (by omega) (by omega)
theorem ix_31 (I : IX h t) (ht : t ≤ 511) (x y : Int32) : lk_sp h 210 [.ref 240, .int x, .int y] 106 [.ref 270, .int x, .int y] (fun g => IX g (t + 1)) := ix_q I (ck_r I.1.1.1.2 (pq_toll I.1.1.1.1 (by omega) x y)) (fun _ R => rq_toll R x y) (by omega) (by omega)
theorem xe_5 (I : IX h t) (x : Int32) : lk_eq h 186 [.ref 240, .int x] 56 [.ref 270, .int x] (fun g => IX g (t + 1)) := by
  obtain ⟨g, r, X, F⟩ := pu_rule I.1.1.1.1 x
  have K := F.kf
  obtain ⟨X, F⟩ := F.ci X I.1.1.1.2
  exact r.sp ⟨_, rfl, (rq_rule (I.1.1.2.hi (fun c h1 _ => F.1 c h1)) x).mp (fun w k p => ⟨p.1, ⟨⟨(X.lo p.2.2.cf).mono (by omega), p.2.1.up (by omega)⟩, I.1.2.call K F p.2.2⟩, I.2.call K F p.2.2⟩)⟩
theorem ix_5 (I : IX h t) (x : Int32) : lk_sp h 186 [.ref 240, .int x] 56 [.ref 270, .int x] (fun g => IX g (t + 1)) := (xe_5 I x).sp
theorem ix_10 (I : IX h t) : lk_vo h 191 [.ref 240] 66 [.ref 270] (fun g => IX g (t + 1)) := by
  obtain ⟨g, r, X, F⟩ := pu_cold I.1.1.1.1
  have K := F.kf
  obtain ⟨X, F⟩ := F.ci X I.1.1.1.2
  exact r.sp ((rq_cold (I.1.1.2.hi (fun c h1 _ => F.1 c h1))).mp (fun w k p => ⟨⟨⟨(X.lo p.2.2.cf).mono (by omega), p.2.1.up (by omega)⟩, I.1.2.call K F p.2.2⟩, I.2.call K F p.2.2⟩))
end IXL
