/-! ===== pages, images: both sides alike ===== -/
section REL
variable {h g k : LH} {M N t : Nat}
/-- images are there on both sides; the texts have the same lengths -/
def ER (h : LH) : Prop := (∀ j, j < 3 → h.1 269 j = h.1 273 j) ∧ h.1 251 1 = h.1 271 170 ∧ ∀ j, j < 3 → h.1 273 j ≠ 0 → h.1 (253 + 2 * j) 1 = h.1 271 (173 * (j + 1) + 170)
def IW (h : LH) (t : Nat) : Prop := IV h t ∧ ER h
/-- an ordinary call of the class leaves these -/
def KF (h g : LH) : Prop := (∀ e, 251 ≤ e → e < 259 → g.1 e = h.1 e) ∧ g.1 269 = h.1 269
theorem ER.ext (E : ER h) (e : g.1 = h.1) : ER g := by
  unfold ER
  rw [e]
  exact E
theorem IW.up {t2 : Nat} (I : IW h t) (ht : t ≤ t2) : IW h t2 := ⟨I.1.up ht, I.2⟩
theorem IW.ext (I : IW h t) (e : g.1 = h.1) : IW g t := ⟨I.1.ext e, I.2.ext e⟩
theorem ER.call (E : ER h) (K : KF h g) (C : CF h g) (O : OF g k) : ER k := by
  obtain ⟨e1, e2, e3⟩ := E
  have c : ∀ e, 251 ≤ e → e < 259 → k.1 e = h.1 e := fun e h1 h2 => (O.1 e (by omega)).trans (K.1 e h1 h2)
  have d : ∀ ix, 170 ≤ ix → ix < 692 → k.1 271 ix = h.1 271 ix := fun ix h1 h2 => (O.2.1 ix h1 h2).trans (by rw [C.1 271 (by decide)])
  have f : k.1 273 = h.1 273 := O.2.2.2.1.trans (C.1 273 (by decide))
  have i : k.1 269 = h.1 269 := (O.1 269 (by decide)).trans K.2
  refine ⟨fun j hj => by rw [i, f]; exact e1 j hj, by rw [c 251 (by decide) (by decide), d 170 (by decide) (by decide)]; exact e2, fun j hj hs => ?_⟩
  rw [f] at hs
  rw [c _ (by omega) (by omega), d _ (by omega) (by omega)]
  exact e3 j hj hs
def CK (kn : Nat) (As : List Value) (h : LH) (N : Nat) : Prop := ∃ (v : Int32) (g : LH), tf_Rt 11 kn (.ref 240 :: As) h (.int v) g ∧ CI g N ∧ CF h g ∧ KF h g
theorem Fr.kf (F : Fr h g) : KF h g := ⟨fun e h1 h2 => F.1 e (by omega), F.1 269 (by decide)⟩
theorem Fq.kf (F : Fq h g) : KF h g := ⟨fun e h1 h2 => F.1 e (by omega) (by omega), F.1 269 (by decide) (by decide)⟩
theorem Ft.kf (F : Ft h g) : KF h g := ⟨fun e h1 h2 => F.1 e (by omega), F.1 269 (by decide)⟩
theorem KF.rf : KF h h := ⟨fun _ _ _ => rfl, rfl⟩
theorem ck_r {kn N : Nat} {As : List Value} (P : PGS h) (s : ∃ (v : Int32) (g : LH), tf_Rt 11 kn (.ref 240 :: As) h (.int v) g ∧ XA g N ∧ Fr h g) : CK kn As h N := by
  obtain ⟨v, g, k1, k2, k3⟩ := s
  obtain ⟨a, b⟩ := k3.ci k2 P
  exact ⟨v, g, k1, a, b, k3.kf⟩
theorem ck_0 {kn : Nat} {As : List Value} {v : Int32} (X : CI h M) (s : tf_Rt 11 kn (.ref 240 :: As) h (.int v) h) : CK kn As h M := ⟨v, h, s, X, CF.rf, KF.rf⟩
theorem iw_q {kx km M2 N2 : Nat} {As Bs : List Value} (I : IW h t) (c : CK kx As h M2) (r : ∀ g, RI g (8000 * t) → RQ km Bs g N2) (hM : M2 ≤ 2000000 * (t + 1)) (hN : N2 ≤ 8000 * (t + 1)) : lk_sp h kx (.ref 240 :: As) km (.ref 270 :: Bs) (fun g => IW g (t + 1)) := by
  obtain ⟨v, g, s, X, F, K⟩ := c
  exact s.sp ⟨⟨v, rfl⟩, tf_Sp.mp (r g (I.1.2.hi (fun c h1 _ => F.1 c h1))) (fun _ _ p => ⟨p.1, ⟨(X.lo p.2.2.cf).mono hM, p.2.1.up hN⟩, I.2.call K F p.2.2⟩)⟩
theorem lk_eq.sp {kx km : Nat} {As Bs : List Value} {P : LH → Prop} (q : lk_eq h kx As km Bs P) : lk_sp h kx As km Bs P := tf_Sp.mp q (fun _ _ p => by
  obtain ⟨x, e, p⟩ := p
  exact ⟨⟨x, e⟩, p.mp (fun _ _ p2 => ⟨⟨x, p2.1⟩, p2.2⟩)⟩)
/-- lay and work on both sides -/
theorem iw_L {kx km M2 N2 : Nat} {As Bs : List Value} (I : IW h t) (c : CL kx As h M2) (r : ∀ g, RI g (8000 * t) → tf_Sp 11 km (.ref 270 :: Bs) g (fun v k => (∃ x, v = .int x) ∧ LYd g k N2)) (hM : M2 ≤ 2000000 * (t + 1)) (hN : N2 ≤ 8000 * (t + 1)) : lk_sp h kx (.ref 240 :: As) km (.ref 270 :: Bs) (fun g => IW g (t + 1)) := by
  refine tf_Sp.mp c (fun v g p => ?_)
  obtain ⟨pv, X, F, p269, pp, p0⟩ := p
  refine ⟨pv, tf_Sp.mp (r g (I.1.2.hi (fun c h1 _ => F.1 c h1))) (fun w k q => ?_)⟩
  obtain ⟨qv, R, Cm, q0, qi, q3, -⟩ := q
  obtain ⟨e1, e2, e3⟩ := I.2
  have f : k.1 273 = h.1 273 := q3.trans (F.1 273 (by decide))
  refine ⟨qv, ⟨(X.lo Cm).mono hM, R.up hN⟩, fun j hj => ?_, ?_, fun j hj hs => ?_⟩
  · rw [Cm 269 (by decide), p269, f]
    exact e1 j hj
  · rw [Cm 251 (by decide), p0, q0]
  · rw [f] at hs
    rw [Cm _ (by omega), pp _ (by omega) (by omega), qi _ (by omega) (by omega), F.1 271 (by decide)]
    exact e3 j hj hs
theorem sy_puts_len {x : Int64} : ∀ (f i : Nat) (h : LH) (n : Nat), h.1 251 1 = nI n → (sy_puts x i f h).1 251 1 = nI (n + f)
  | 0, _, h, n, e => e
  | f + 1, i, h, n, e => by
    have := sy_puts_len (x := x) f (i + 1) (sy_put x i h) (n + 1) (sy_put_len e)
    rw [sy_puts, this]
    congr 1
    omega
theorem sy_mput_fr {x : Int64} {i : Nat} : (∀ e, e ≠ 271 → e ≠ 272 → (sy_mput x i h).1 e = h.1 e) ∧ ∀ ix, ix ≠ 170 → (sy_mput x i h).1 271 ix = h.1 271 ix := by
  have e : ∃ (a : Nat) (v u : Int32), sy_mput x i h = w1 (w1 h 272 a v) 271 170 u := ⟨_, _, _, rfl⟩
  obtain ⟨a, v, u, e⟩ := e
  exact ⟨fun e9 h1 h2 => by rw [e, w1_ne h1, w1_ne h2], fun ix hx => by rw [e, w1_at hx, w1_ne (by decide)]⟩
theorem sy_mputs_fr {x : Int64} : ∀ (f i : Nat) (h : LH) (n : Nat), h.1 271 (170 : Int32).toNatClampNeg = nI n → (sy_mputs x i f h).1 271 (170 : Int32).toNatClampNeg = nI (n + f) ∧ (∀ e, e ≠ 271 → e ≠ 272 → (sy_mputs x i f h).1 e = h.1 e) ∧ ∀ ix, ix ≠ 170 → (sy_mputs x i f h).1 271 ix = h.1 271 ix
  | 0, _, h, n, e => ⟨e, fun _ _ _ => rfl, fun _ _ => rfl⟩
  | f + 1, i, h, n, e => by
    obtain ⟨a, b, c⟩ := sy_mputs_fr (x := x) f (i + 1) (sy_mput x i h) (n + 1) (sy_mput_len e)
    obtain ⟨b2, c2⟩ := sy_mput_fr (h := h) (x := x) (i := i)
    refine ⟨?_, fun e h1 h2 => (b e h1 h2).trans (b2 e h1 h2), fun ix hx => (c ix hx).trans (c2 ix hx)⟩
    rw [sy_mputs, a]
    congr 1
    omega
theorem ie_0 (I : IW h t) (x : Int64) : lk_eq h 181 [.ref 240, .long x] 8 [.ref 270, .long x] (fun g => IW g (t + 1)) := by
  obtain ⟨⟨X, R⟩, e1, e2, e3⟩ := I
  obtain ⟨l, hl, el⟩ := (X.2 0 (by omega)).2
  have el : h.1 251 1 = nI l := el
  have r1 := sy_X (x := x) hl el
  have em : h.1 271 (170 : Int32).toNatClampNeg = nI l := e2.symm.trans el
  -- the class's side
  obtain ⟨g, eg, Xg, Fg, Lg, Kg⟩ : ∃ g, (if l + sy_n x ≤ 400 then sy_puts x 0 (sy_n x) h else h) = g ∧ CI g (2000000 * t) ∧ CF h g ∧ g.1 251 1 = nI (if l + sy_n x ≤ 400 then l + sy_n x else l) ∧ ∀ e, e ≠ 251 ∧ e ≠ 252 → g.1 e = h.1 e := by
    refine ⟨_, rfl, ?_⟩
    by_cases c : l + sy_n x ≤ 400
    · rw [if_pos c, if_pos c]
      obtain ⟨a, b⟩ := sy_puts_ci (x := x) (sy_n x) 0 h l X el c
      exact ⟨a, b, sy_puts_len _ _ _ _ el, fun e he => sy_puts_out he _ _ _⟩
    · rw [if_neg c, if_neg c]
      exact ⟨X, CF.rf, el, fun _ _ => rfl⟩
  rw [eg] at r1
  have Rg : RI g (8000 * t) := R.hi (fun c h1 _ => Fg.1 c h1)
  have emg : g.1 271 (170 : Int32).toNatClampNeg = nI l := by rw [Fg.1 271 (by decide)]; exact em
  have r2 := sy_M (x := x) hl emg
  have R0 : RI (w1 g 270 0 0) (8000 * t) := Rg.w0 (by decide)
  have em0 : (w1 g 270 0 0).1 271 (170 : Int32).toNatClampNeg = nI l := by rw [w1_ne (by decide)]; exact emg
  obtain ⟨k, ek, Rk, Ck, Lk, Kk, Kk2⟩ : ∃ k, (if l + sy_n x ≤ 400 then sy_mputs x 0 (sy_n x) (tf_up g.1 270 0 0, g.2) else (tf_up g.1 270 0 0, g.2)) = k ∧ RI k (8000 * t) ∧ CFm g k ∧ k.1 271 170 = nI (if l + sy_n x ≤ 400 then l + sy_n x else l) ∧ k.1 273 = g.1 273 ∧ ∀ ix, ix ≠ 170 → k.1 271 ix = g.1 271 ix := by
    refine ⟨_, rfl, ?_⟩
    by_cases c : l + sy_n x ≤ 400
    · rw [if_pos c, if_pos c]
      obtain ⟨a, b⟩ := sy_mputs_ri (x := x) (sy_n x) 0 (w1 g 270 0 0) l R0 em0 c
      obtain ⟨p, q, r⟩ := sy_mputs_fr (x := x) (sy_n x) 0 (w1 g 270 0 0) l em0
      refine ⟨a, fun e he => (b e he).trans (w1_ne (by omega)), p, (q 273 (by decide) (by decide)).trans (w1_ne (by decide)), fun ix hx => (r ix hx).trans (by rw [w1_ne (by decide)])⟩
    · rw [if_neg c, if_neg c]
      exact ⟨R0, fun e he => w1_ne (h := g) (c := 270) (i := 0) (v := 0) (by omega), em0, w1_ne (h := g) (c := 270) (i := 0) (v := 0) (by decide), fun ix _ => by
        show (w1 g 270 0 0).1 271 ix = _
        rw [w1_ne (by decide)]⟩
  rw [ek] at r2
  have f : k.1 273 = h.1 273 := Kk.trans (Fg.1 273 (by decide))
  refine r1.sp ⟨_, rfl, r2.sp ⟨rfl, ⟨(Xg.lo Ck).mono (by omega), Rk.up (by omega)⟩, fun j hj => ?_, ?_, fun j hj hs => ?_⟩⟩
  · rw [Ck 269 (by decide), Kg 269 (by decide), f]
    exact e1 j hj
  · rw [Ck 251 (by decide), Lg, Lk]
  · rw [f] at hs
    rw [Ck _ (by omega), Kg _ (by omega), Kk2 _ (by omega), Fg.1 271 (by decide)]
    exact e3 j hj hs
theorem iw_0 (I : IW h t) (x : Int64) : lk_sp h 181 [.ref 240, .long x] 8 [.ref 270, .long x] (fun g => IW g (t + 1)) := (ie_0 I x).sp
theorem iw_1 (I : IW h t) : lk_sp h 182 [.ref 240] 24 [.ref 270] (fun g => IW g (t + 1)) := iw_L I (cl_lay I.1.1) (fun _ R => rq_lay R) (by omega) (by omega)
theorem iw_11 (I : IW h t) (ht : t ≤ 511) : lk_sp h 192 [.ref 240] 69 [.ref 270] (fun g => IW g (t + 1)) := iw_L I (cl_work I.1.1 (by omega)) (fun _ R => rq_work R (by omega)) (by omega) (by omega)
theorem ie_5 (I : IW h t) (x : Int32) : lk_eq h 186 [.ref 240, .int x] 56 [.ref 270, .int x] (fun g => IW g (t + 1)) := by
  obtain ⟨g, r, X, F⟩ := pu_rule I.1.1.1 x
  have K := F.kf
  obtain ⟨X, F⟩ := F.ci X I.1.1.2
  exact r.sp ⟨_, rfl, (rq_rule (I.1.2.hi (fun c h1 _ => F.1 c h1)) x).mp (fun w k p => ⟨p.1, ⟨(X.lo p.2.2.cf).mono (by omega), p.2.1.up (by omega)⟩, I.2.call K F p.2.2⟩)⟩
theorem iw_5 (I : IW h t) (x : Int32) : lk_sp h 186 [.ref 240, .int x] 56 [.ref 270, .int x] (fun g => IW g (t + 1)) := (ie_5 I x).sp
theorem iw_10 (I : IW h t) : lk_vo h 191 [.ref 240] 66 [.ref 270] (fun g => IW g (t + 1)) := by
  obtain ⟨g, r, X, F⟩ := pu_cold I.1.1.1
  have K := F.kf
  obtain ⟨X, F⟩ := F.ci X I.1.1.2
  exact r.sp ((rq_cold (I.1.2.hi (fun c h1 _ => F.1 c h1))).mp (fun w k p => ⟨⟨(X.lo p.2.2.cf).mono (by omega), p.2.1.up (by omega)⟩, I.2.call K F p.2.2⟩))
theorem iw_22 (I : IW h t) (x y : Int32) : lk_sp h 201 [.ref 240, .int x, .int y] 86 [.ref 270, .int x, .int y] (fun g => IW g (t + 1)) := by
  obtain ⟨v, g, r, X, F⟩ := pq_wide I.1.1.1 x y
  obtain ⟨a, b⟩ := F.ci X I.1.1.2
  exact iw_q I ⟨v, g, r, a, b, F.kf⟩ (fun _ R => rq_wide R x y) (by omega) (by omega)
theorem iw_23 (I : IW h t) (x y : Int32) : lk_sp h 202 [.ref 240, .int x, .int y] 91 [.ref 270, .int x, .int y] (fun g => IW g (t + 1)) := by
  obtain ⟨v, g, r, X, F⟩ := pq_trip I.1.1.1 x y
  obtain ⟨a, b⟩ := F.ci X I.1.1.2
  exact iw_q I ⟨v, g, r, a, b, F.kf⟩ (fun _ R => rq_trip R x y) (by omega) (by omega)
theorem ie_32 (I : IW h t) (x : Int32) : lk_eq h 211 [.ref 240, .int x] 114 [.ref 270, .int x] (fun g => IW g (t + 1)) := by
  obtain ⟨g, r, X, F, g0, gj⟩ := pv_image I.1.1 x
  have f3 : g.1 273 = h.1 273 := F.1 273 (by decide)
  have f1 : g.1 271 = h.1 271 := F.1 271 (by decide)
  obtain ⟨e1, e2, e3⟩ := I.2
  refine r.sp ⟨_, rfl, (rq_image (I.1.2.hi (fun c h1 _ => F.1 c h1)) x).mp (fun w k p => ?_)⟩
  obtain ⟨pv, R, C, p0, pj⟩ := p
  refine ⟨pv, ⟨(X.lo C).mono (by omega), R.up (by omega)⟩, ?_⟩
  by_cases c : rf_in x 0 2 = false
  · have e := g0 c
    subst e
    exact I.2.call KF.rf CF.rf (p0 c)
  · obtain ⟨j, -, hj, ej⟩ := rf_in_t (l := 0) (u := 2) (by omega) (Bool.not_eq_false _ ▸ c) (by omega)
    obtain ⟨a1, a2, a3, a4⟩ := gj j (by omega) ej
    obtain ⟨b1, b2, b3, b4⟩ := pj j (by omega) ej
    refine ⟨fun i hi => ?_, ?_, fun i hi hs => ?_⟩
    · rw [C 269 (by decide), a1 i, b1 i, f3]
      split
      · rfl
      · exact e1 i hi
    · rw [C 251 (by decide), a2, b2, f1]
      exact e2
    · rw [b1 i, f3] at hs
      rw [C _ (by omega)]
      by_cases ij : i = j
      · subst ij
        rw [a3, b3, f1]
        exact e2
      · rw [if_neg ij] at hs
        rw [a4 i hi ij, b4 i hi ij, f1]
        exact e3 i hi hs
theorem iw_32 (I : IW h t) (x : Int32) : lk_sp h 211 [.ref 240, .int x] 114 [.ref 270, .int x] (fun g => IW g (t + 1)) := (ie_32 I x).sp
theorem ie_33 (I : IW h t) (x : Int32) : lk_eq h 212 [.ref 240, .int x] 115 [.ref 270, .int x] (fun g => IW g (t + 1)) := by
  obtain ⟨g, r, X, F, g9, g0, gj, gi⟩ := pv_again I.1.1 x
  have f3 : g.1 273 = h.1 273 := F.1 273 (by decide)
  have f1 : g.1 271 = h.1 271 := F.1 271 (by decide)
  obtain ⟨e1, e2, e3⟩ := I.2
  have ev : qv_img h x = (rf_in x 0 2 && !decide (g.1 273 x.toNatClampNeg = 0)) := by
    by_cases c1 : x < 0
    · simp [qv_img, rf_in, c1]
    · rw [rf_in3 c1, f3]
      by_cases c2 : (3 : Int32) ≤ x
      · simp [qv_img, c1, c2]
      · obtain ⟨j, hj, ej⟩ := vi_nI (vi_3 c1 c2)
        have hcl : x.toNatClampNeg = j := by rw [ej]; exact nI_clamp (by omega)
        simp [qv_img, c1, c2, hcl, e1 j hj]
  refine r.sp ⟨_, rfl, (rq_again (I.1.2.hi (fun c h1 _ => F.1 c h1)) x).mp (fun w k p => ?_)⟩
  obtain ⟨pv, R, C, p3, p0, pj, pi⟩ := p
  refine ⟨by rw [pv, ev], ⟨(X.lo C).mono (by omega), R.up (by omega)⟩, ?_⟩
  by_cases c : qv_img h x = false
  · have e := g0 c
    subst e
    exact I.2.call KF.rf CF.rf (p0 (ev ▸ c))
  · have c : qv_img h x = true := by simpa using c
    obtain ⟨j, hj, ej⟩ := vi_nI (img_in c)
    have hcl : x.toNatClampNeg = j := by rw [ej]; exact nI_clamp (by omega)
    have hne : h.1 269 j ≠ 0 := by
      have c2 := c
      simp only [qv_img, Bool.and_eq_true, Bool.not_eq_true', decide_eq_false_iff_not, hcl] at c2
      exact c2.2.2
    have hne3 : h.1 273 j ≠ 0 := by rw [← e1 j hj]; exact hne
    refine ⟨fun i hi => ?_, ?_, fun i hi hs => ?_⟩
    · rw [C 269 (by decide), g9, p3, f3]
      exact e1 i hi
    · rw [C 251 (by decide), gj j hj ej hne, pj j hj ej (by rw [f3]; exact hne3), f1]
      exact e3 j hj hne3
    · rw [p3, f3] at hs
      rw [C _ (by omega), gi i hi, pi i hi, f1]
      exact e3 i hi hs
theorem iw_33 (I : IW h t) (x : Int32) : lk_sp h 212 [.ref 240, .int x] 115 [.ref 270, .int x] (fun g => IW g (t + 1)) := (ie_33 I x).sp
theorem iw_2 (I : IW h t) (x : Int32) : lk_sp h 183 [.ref 240, .int x] 25 [.ref 270, .int x] (fun g => IW g (t + 1)) := by
  obtain ⟨v, r⟩ := pu_fault (h := h) x
  exact iw_q I (ck_0 I.1.1 r) (fun _ R => rq_fault R x) (by omega) (by omega)
theorem iw_3 (I : IW h t) (ht : t ≤ 511) : lk_sp h 184 [.ref 240] 54 [.ref 270] (fun g => IW g (t + 1)) := iw_q I (ck_r I.1.1.2 (pu_pivot I.1.1.1 (by omega))) (fun _ R => rq_pivot R (by omega)) (by omega) (by omega)
theorem iw_4 (I : IW h t) (ht : t ≤ 511) (x : Int32) : lk_sp h 185 [.ref 240, .int x] 55 [.ref 270, .int x] (fun g => IW g (t + 1)) := iw_q I (ck_r I.1.1.2 (pu_pivots I.1.1.1 (by omega) x)) (fun _ R => rq_pivots R (by omega) x) (by omega) (by omega)
theorem iw_6 (I : IW h t) (x y z : Int32) : lk_sp h 187 [.ref 240, .int x, .int y, .int z] 59 [.ref 270, .int x, .int y, .int z] (fun g => IW g (t + 1)) := iw_q I (ck_r I.1.1.2 (pu_shift I.1.1.1 x y z)) (fun _ R => rq_shift R x y z) (by omega) (by omega)
theorem iw_7 (I : IW h t) (x y : Int32) : lk_sp h 188 [.ref 240, .int x, .int y] 63 [.ref 270, .int x, .int y] (fun g => IW g (t + 1)) := iw_q I (ck_r I.1.1.2 (pu_block I.1.1.1 x y)) (fun _ R => rq_block R x y) (by omega) (by omega)
theorem iw_8 (I : IW h t) (x y : Int32) : lk_sp h 189 [.ref 240, .int x, .int y] 64 [.ref 270, .int x, .int y] (fun g => IW g (t + 1)) := iw_q I (ck_r I.1.1.2 (pu_widen I.1.1.1 x y)) (fun _ R => rq_widen R x y) (by omega) (by omega)
theorem iw_9 (I : IW h t) (x y : Int32) : lk_sp h 190 [.ref 240, .int x, .int y] 65 [.ref 270, .int x, .int y] (fun g => IW g (t + 1)) := iw_q I (ck_r I.1.1.2 (pu_charge I.1.1.1 x y)) (fun _ R => rq_charge R x y) (by omega) (by omega)
theorem iw_12 (I : IW h t) : lk_sp h 193 [.ref 240] 70 [.ref 270] (fun g => IW g (t + 1)) := iw_q I (ck_r I.1.1.2 (pu_undo I.1.1.1)) (fun _ R => rq_undo R) (by omega) (by omega)
theorem iw_13 (I : IW h t) (x : Int32) : lk_sp h 194 [.ref 240, .int x] 72 [.ref 270, .int x] (fun g => IW g (t + 1)) := by
  obtain ⟨n, k, m, hm, H⟩ := I.1.1.1.net
  exact iw_q I (ck_0 I.1.1 (pq_grid H.1 x)) (fun _ R => rq_grid R x) (by omega) (by omega)
theorem iw_16 (I : IW h t) (x : Int32) : lk_sp h 195 [.ref 240, .int x] 77 [.ref 270, .int x] (fun g => IW g (t + 1)) := by
  obtain ⟨n, k, m, hm, H⟩ := I.1.1.1.net
  exact iw_q I (ck_0 I.1.1 (pq_thread H.1 x)) (fun _ R => rq_thread R x) (by omega) (by omega)
theorem iw_17 (I : IW h t) (x y z : Int32) : lk_sp h 196 [.ref 240, .int x, .int y, .int z] 79 [.ref 270, .int x, .int y, .int z] (fun g => IW g (t + 1)) := iw_q I (ck_r I.1.1.2 (pq_path I.1.1.1 x y z)) (fun _ R => rq_path R x y z) (by omega) (by omega)
theorem iw_18 (I : IW h t) (x : Int32) : lk_sp h 197 [.ref 240, .int x] 80 [.ref 270, .int x] (fun g => IW g (t + 1)) := iw_q I (ck_r I.1.1.2 (pq_next I.1.1.1 x)) (fun _ R => rq_next R x) (by omega) (by omega)
theorem iw_19 (I : IW h t) (ht : t ≤ 511) (x y : Int32) : lk_sp h 198 [.ref 240, .int x, .int y] 81 [.ref 270, .int x, .int y] (fun g => IW g (t + 1)) := by
  obtain ⟨n, k, m, hm, H⟩ := I.1.1.1.net
  exact iw_q I (ck_0 I.1.1 (pq_past H (by omega) x y)) (fun _ R => rq_past R x y) (by omega) (by omega)
theorem iw_20 (I : IW h t) (x : Int32) : lk_sp h 199 [.ref 240, .int x] 83 [.ref 270, .int x] (fun g => IW g (t + 1)) := by
  obtain ⟨n, k, m, hm, H⟩ := I.1.1.1.net
  exact iw_q I (ck_0 I.1.1 (pq_bill H.1 x)) (fun _ R => rq_bill R x) (by omega) (by omega)
theorem iw_21 (I : IW h t) (x y : Int32) : lk_sp h 200 [.ref 240, .int x, .int y] 85 [.ref 270, .int x, .int y] (fun g => IW g (t + 1)) := by
  obtain ⟨n, k, m, hm, H⟩ := I.1.1.1.net
  exact iw_q I (ck_0 I.1.1 (pq_ledger H.1 x y)) (fun _ R => rq_ledger R x y) (by omega) (by omega)
theorem iw_24 (I : IW h t) (x : Int32) : lk_sp h 203 [.ref 240, .int x] 93 [.ref 270, .int x] (fun g => IW g (t + 1)) := iw_q I (ck_0 I.1.1 (pq_apart x)) (fun _ R => rq_apart R x) (by omega) (by omega)
theorem iw_25 (I : IW h t) (x y : Int32) : lk_sp h 204 [.ref 240, .int x, .int y] 94 [.ref 270, .int x, .int y] (fun g => IW g (t + 1)) := by
  obtain ⟨n, k, m, hm, H⟩ := I.1.1.1.net
  exact iw_q I (ck_0 I.1.1 (pq_span H.1 x y)) (fun _ R => rq_span R x y) (by omega) (by omega)
theorem iw_26 (I : IW h t) (ht : t ≤ 511) : lk_sp h 205 [.ref 240] 103 [.ref 270] (fun g => IW g (t + 1)) := iw_q I (ck_r I.1.1.2 (pq_least I.1.1.1 (by omega))) (fun _ R => rq_least R) (by omega) (by omega)
theorem iw_27 (I : IW h t) : lk_sp h 206 [.ref 240] 110 [.ref 270] (fun g => IW g (t + 1)) := by
  obtain ⟨n, k, m, hm, H⟩ := I.1.1.1.net
  exact iw_q I (ck_0 I.1.1 (pq_lack H.1)) (fun _ R => rq_lack R) (by omega) (by omega)
theorem iw_28 (I : IW h t) : lk_sp h 207 [.ref 240] 109 [.ref 270] (fun g => IW g (t + 1)) := by
  obtain ⟨n, k, m, hm, H⟩ := I.1.1.1.net
  exact iw_q I (ck_0 I.1.1 (pq_cut H.1)) (fun _ R => rq_cut R) (by omega) (by omega)
theorem iw_29 (I : IW h t) (ht : t ≤ 511) (x : Int32) : lk_sp h 208 [.ref 240, .int x] 111 [.ref 270, .int x] (fun g => IW g (t + 1)) := iw_q I (ck_r I.1.1.2 (pq_steps I.1.1.1 (by omega) x)) (fun _ R => rq_steps R (by omega) x) (by omega) (by omega)
theorem iw_30 (I : IW h t) (ht : t ≤ 511) (x y : Int32) : lk_sp h 209 [.ref 240, .int x, .int y] 105 [.ref 270, .int x, .int y] (fun g => IW g (t + 1)) := iw_q I (ck_r I.1.1.2 (pq_worth I.1.1.1 (by omega) x y)) (fun _ R => rq_worth R x y) (by omega) (by omega)
theorem iw_31 (I : IW h t) (ht : t ≤ 511) (x y : Int32) : lk_sp h 210 [.ref 240, .int x, .int y] 106 [.ref 270, .int x, .int y] (fun g => IW g (t + 1)) := iw_q I (ck_r I.1.1.2 (pq_toll I.1.1.1 (by omega) x y)) (fun _ R => rq_toll R x y) (by omega) (by omega)
theorem iw_ap {km N2 : Nat} {Bs : List Value} (I : IW h t) (r : RQ km Bs h N2) (hN : N2 ≤ 8000 * (t + 1)) : tf_Sp 11 km (.ref 270 :: Bs) h (fun v g => (∃ x, v = .int x) ∧ IW g (t + 1)) := tf_Sp.mp r (fun _ _ p => ⟨p.1, ⟨(I.1.1.lo p.2.2.cf).mono (by omega), p.2.1.up hN⟩, I.2.call KF.rf CF.rf p.2.2⟩)
set_option maxRecDepth 100000 in
theorem st_er : (∀ j, j < 3 → tk_h.1 269 j = tk_h.1 273 j) ∧ tk_h.1 251 1 = tk_h.1 271 170 ∧ ∀ j, j < 3 → tk_h.1 273 j = 0 := by decide +kernel
theorem st_iw : IW tk_h 0 := ⟨st_iv, st_er.1, st_er.2.1, fun j hj hs => absurd (st_er.2.2 j hj) hs⟩
end REL
