/-! ===== path on both sides ===== -/
section TDP
variable {h g hc r T : LH} {t M d n k m b : Nat}
theorem gd_lo6 : ∀ (i c x : Nat) (g : LH) (q : Nat), q < c → (gd c i x g).1 286 q = g.1 286 q
  | 0, _, _, _, _, _ => rfl
  | i + 1, c, x, g, q, hq => (gd_al (i + 1) c x 0 g (by omega)).2 q hq
/-- the way in the class is the reference's -/
theorem wy_eq (L : LT T n k) (hb : b ≤ 225) (C : CT h b T n) (E : TLe h b T n k) (A : ∀ a, a < k → rm T a 0 ≠ rm T a 1) {p o i j : Nat} (hp : p ≤ n) (ho : o ≤ n) (hi : i ≤ df T p) (hj : j ≤ df T o) (ej : tw T i p = tw T j o) (ds : ∀ i2 j2, i2 < i → j2 < j → tw T i2 p ≠ tw T j2 o) (hij : i + j ≤ n) {R : LH} (e281 : R.1 281 = T.1 281) (e282 : R.1 282 = T.1 282) (e271 : R.1 271 = T.1 271) : (rt_way h b n (cI n p) (cI n o)).1 241 2 = nI (i + j) ∧ (∀ m, m < i + j → (rt_way h b n (cI n p) (cI n o)).1 242 m = eK ((gd i j o (gu 0 i p R)).1 285 m) ∧ (rt_way h b n (cI n p) (cI n o)).1 243 m = (gd i j o (gu 0 i p R)).1 286 m) ∧ ∀ e, e < 240 → (rt_way h b n (cI n p) (cI n o)).1 e = h.1 e := by
  have n7 := L.1.1.2.1
  have k14 := L.1.1.2.2
  have ti := L.tu i p hp hi
  have C1 : CT (w1 h 241 2 0) b T n := C.same (w1_ne (by omega)) (w1_ne (by omega))
  have mt := ct_meet L C1 hp ho hi hj ej ds 8 0 (Nat.zero_le _) (by omega)
  have mt : rt_meet (w1 h 241 2 0) b n (cI n o) 8 (cI n p) = cI n (tw T i p) := mt
  have e2 : cy_2 h b n (cI n p) (cI n o) = w1 (w1 h 241 2 0) 241 3 (cI n (tw T i p)) := by unfold cy_2; rw [mt]
  have C2 : CT (w1 (w1 h 241 2 0) 241 3 (cI n (tw T i p))) b T n := C1.same (w1_ne (by omega)) (w1_ne (by omega))
  have o2 : ∀ e, e ≠ 241 → (w1 (w1 h 241 2 0) 241 3 (cI n (tw T i p))).1 e = h.1 e := fun e he => by rw [w1_ne he, w1_ne he]
  have j2 : (w1 (w1 h 241 2 0) 241 3 (cI n (tw T i p))).1 241 3 = cI n (tw T i p) := w1_eq
  have z2 : (w1 (w1 h 241 2 0) 241 3 (cI n (tw T i p))).1 241 2 = nI 0 := by rw [w1_at (by decide), w1_eq]; rfl
  unfold rt_way wy_c
  rw [e2]
  generalize w1 (w1 h 241 2 0) 241 3 (cI n (tw T i p)) = h2 at C2 o2 j2 z2
  obtain ⟨r1, r2, r3, r4, r5⟩ := ct_clb L hb hp ti.1 8 0 i 0 h2 C2 j2 z2 (by omega) (by omega) (by omega) (by rw [Nat.zero_add])
  have r1 : ∀ m, m < i → (rt_clb b 8 (cI n p) h2).1 242 m = eK (T.1 282 (tw T m p)) ∧ (rt_clb b 8 (cI n p) h2).1 243 m = (if h2.1 (b + 2) (eK (T.1 282 (tw T m p))).toNatClampNeg = cI n (tw T m p) then 1 else 0) := by
    intro m hm
    have := r1 m hm
    rw [Nat.zero_add] at this
    exact this
  have r3 : (rt_clb b 8 (cI n p) h2).1 241 2 = nI i := by
    have : (rt_clb b 8 (cI n p) h2).1 241 2 = nI (0 + i) := r3
    rw [Nat.zero_add] at this
    exact this
  have r4 : ∀ q, q ≠ 2 → (rt_clb b 8 (cI n p) h2).1 241 q = h2.1 241 q := r4
  have r5 : ∀ e, e ≠ 241 → e ≠ 242 → e ≠ 243 → (rt_clb b 8 (cI n p) h2).1 e = h2.1 e := r5
  generalize rt_clb b 8 (cI n p) h2 = h3 at r1 r3 r4 r5
  have C3 : CT h3 b T n := C2.same (r5 _ (by omega) (by omega) (by omega)) (r5 _ (by omega) (by omega) (by omega))
  have cn : rt_cnt h3 = i := by unfold rt_cnt; rw [r3, nI_clamp (by omega)]
  have tj := L.tu j o ho hj
  have dm : rt_dm h3 b n i (cI n o) = j := by
    unfold rt_dm
    rw [r4 3 (by omega), j2, ct_dep L C3 n o ho (L.dn ho), ct_dep L C3 n _ ti.1 (L.dn ti.1), ej, if_neg (by omega)]
    omega
  have ed : rt_desc h3 b n (rt_cnt h3) (cI n o) = w1 (rt_ds b i j (cI n o) h3) 241 2 (nI (i + j)) := by
    rw [cn]
    unfold rt_desc
    rw [dm, if_pos (by omega)]
  rw [ed]
  obtain ⟨s1, s2, s3⟩ := ct_ds (c := i) L hb ho j 0 h3 C3 (by omega)
  have s1 : ∀ m, m < j → (rt_ds b i j (cI n o) h3).1 242 (i + m) = eK (T.1 282 (tw T (j - 1 - m) o)) ∧ (rt_ds b i j (cI n o) h3).1 243 (i + m) = (if h3.1 (b + 2) (eK (T.1 282 (tw T (j - 1 - m) o))).toNatClampNeg = cI n (tw T (j - 1 - m) o) then 0 else 1) := by
    intro m hm
    have := s1 m hm
    rw [Nat.zero_add] at this
    exact this
  have s2 : ∀ m, ¬ (i ≤ m ∧ m < i + j) → (rt_ds b i j (cI n o) h3).1 242 m = h3.1 242 m ∧ (rt_ds b i j (cI n o) h3).1 243 m = h3.1 243 m := s2
  have s3 : ∀ e, e ≠ 242 → e ≠ 243 → (rt_ds b i j (cI n o) h3).1 e = h3.1 e := s3
  generalize rt_ds b i j (cI n o) h3 = h4 at s1 s2 s3
  have t2 : ∀ e, e ≠ 241 → e ≠ 242 → e ≠ 243 → h3.1 e = h.1 e := fun e h1 h2 h3 => (r5 e h1 h2 h3).trans (o2 e h1)
  refine ⟨w1_eq, fun m hm => ?_, fun e he => by rw [w1_ne (by omega), s3 e (by omega) (by omega), t2 e (by omega) (by omega) (by omega)]⟩
  have a1 : (gu 0 i p R).1 281 = R.1 281 ∧ (gu 0 i p R).1 282 = R.1 282 ∧ (gu 0 i p R).1 271 = R.1 271 := by
    have : ∀ (j c y : Nat) (g : LH), (gu c j y g).1 281 = g.1 281 ∧ (gu c j y g).1 282 = g.1 282 ∧ (gu c j y g).1 271 = g.1 271 := by
      intro j
      induction j with
      | zero => exact fun _ _ _ => ⟨rfl, rfl, rfl⟩
      | succ j ih =>
        intro c y g
        rw [gu]
        obtain ⟨x1, x2, x3⟩ := ih (c + 1) (uf g y) (as1 g c (g.1 282 y) (nI y))
        exact ⟨x1.trans as_281, x2.trans as_282, x3.trans (as1_lo.1 271 (by decide) (by decide) (by decide))⟩
    exact this i 0 p R
  obtain ⟨a1, a2, a3⟩ := a1
  rw [w1_ne (by decide), w1_ne (by decide)]
  rcases Nat.lt_or_ge m i with z | z
  · obtain ⟨k1, k2⟩ := s2 m (by omega)
    obtain ⟨k5, k6⟩ := r1 m z
    have hpn : tw T m p < n := tw_lt L hp (by omega)
    have g5 := gu_at i 0 p m R z
    have g6 := gu_al i 0 p m R z
    rw [Nat.zero_add, e282, tw_same e281] at g5
    rw [Nat.zero_add, e282, tw_same e281] at g6
    refine ⟨?_, ?_⟩
    · rw [k1, k5, (gd_ids j i o _).1 m z, g5]
    · rw [k2, k6, gd_lo6 j i o _ m z, g6]
      have au := al_up L E hpn
      unfold rf_al rm at au ⊢
      rw [e271, au, o2 (b + 2) (by omega)]
  · obtain ⟨m', rfl⟩ : ∃ m', m = i + m' := ⟨m - i, by omega⟩
    obtain ⟨k5, k6⟩ := s1 m' (by omega)
    have hpn : tw T (j - 1 - m') o < n := tw_lt L ho (by omega)
    have g5 := gd_at j i o m' (gu 0 i p R) (by omega)
    have g6 := (gd_al j i o m' (gu 0 i p R) (by omega)).1
    rw [a2, e282, tw_same a1, tw_same e281] at g5
    rw [a2, a1, e282, e281, tw_same a1, tw_same e281] at g6
    refine ⟨?_, ?_⟩
    · rw [k5, g5]
    · rw [k6, g6]
      have ad := al_dn L A E hpn
      unfold rf_al rm at ad ⊢
      rw [a3, e271, ad, t2 (b + 2) (by omega) (by omega) (by omega)]
/-- costs along a way -/
theorem xv_ccL {c : Nat} {R : LH} (Y : CY R c) (H : RM R n k) (D : ∀ i, i < c → ED n k (R.1 285 i)) (Co : COe hc b R n k) (row : ∀ i, i < c → hc.1 242 i = eK (R.1 285 i) ∧ hc.1 243 i = R.1 286 i) {Q : tf_Q} : ∀ (f i : Nat) (s : Int32) (x3 : Value), i + f = c → Q (.int (rt_cs hc b f i s)) R → lx_X9_costOfCycle 298 (tf_Cd 298 (d + 1)) Q 4 [.ref 270, .int s, .int (nI i), x3] [] R
  | 0, i, s, x3, hi, q => by
    have hc := Y.2.1
    refine go_X9_costOfCycle_4 (by decide) ⟨fun _ => go_X9_costOfCycle_66 (by decide) q, fun z => absurd ?_ z⟩
    rw [Y.1]
    exact nI_le (by omega) (by omega)
  | f + 1, i, s, x3, hi, q => by
    have hc16 := Y.2.1
    have n7 := H.1.2.1
    have k14 := H.1.2.2
    have v16 : vp_in (nI i) 16 := vi_of (by omega) (by omega)
    have cl : (nI i).toNatClampNeg = i := nI_clamp (by omega)
    have V := D i (by omega)
    rw [rt_cs, (row i (by omega)).1, (row i (by omega)).2] at q
    have e41 : ∀ y : Int32, hc.1 (b + 5) (eK (R.1 285 i)).toNatClampNeg = y → lx_X9_costOfCycle 298 (tf_Cd 298 (d + 1)) Q 41 [.ref 270, .int s, .int (nI i), x3] [.int y] R := by
      intro y ey
      rw [ey] at q
      refine go_X9_costOfCycle_41 (by decide) ⟨v16, fun c => go_X9_costOfCycle_56 (by decide) (go_X9_costOfCycle_58 (by decide) ?_), fun c => go_X9_costOfCycle_58 (by decide) ?_⟩
      · rw [cl] at c
        rw [if_pos c] at q
        rw [nI_1]
        exact xv_ccL Y H D Co row f (i + 1) _ _ (by omega) q
      · rw [cl] at c
        rw [if_neg c] at q
        rw [nI_1]
        exact xv_ccL Y H D Co row f (i + 1) _ _ (by omega) q
    refine go_X9_costOfCycle_4 (by decide) ⟨fun z => ?_, fun _ => ⟨v16, sx_isLoan (d := d) _ _ (go_X9_costOfCycle_21 (by decide) ⟨fun b => go_X9_costOfCycle_30 (by decide) ⟨v16, ?_⟩, fun b => e41 _ ?_⟩)⟩⟩
    · rw [Y.1] at z
      exact absurd z (nI_ge (by omega) (by omega))
    · rw [bI_0, cl] at b
      rw [cl]
      rcases V with ⟨a, ha, e⟩ | ⟨p, hp, e⟩
      · exact sx_of (d := d) a 3 e rfl (by omega) (by omega) _ (e41 _ (by rw [e, eK_a (by omega), nI_clamp (by omega)]; exact Co.1 a ha))
      · rw [e, loan_p (by omega)] at b
        cases b
    · rw [bI_0, Bool.not_eq_false, cl] at b
      rcases V with ⟨a, ha, e⟩ | ⟨p, hp, e⟩
      · rw [e, loan_a (by omega)] at b
        cases b
      · rw [e, eK_p (by omega), nI_clamp (by omega)]
        exact Co.2 p hp
/-- path, of the class -/
theorem cv_path {c0 : Nat} (H : NO h 0 n k) (R0 : RO h c0) (x y z : Int32) : (nt_two h 0 x y = false → tf_Rt 11 196 [.ref 240, .int x, .int y, .int z] h (.int (-1000)) h) ∧ (nt_two h 0 x y = true → ∃ c, RO (rt_way h 0 n x y) c ∧ tf_Rt 11 196 [.ref 240, .int x, .int y, .int z] h (.int (qv_path (rt_way h 0 n x y) c z)) (rt_way h 0 n x y)) := by
  have s1 := sx_two (h := h) (d := 8) H.1 x y
  refine ⟨fun e => fun Q q => en_X8_path (by decide) (go_X8_path_0 (by decide) (s1 _ (go_X8_path_9 (by decide) ⟨fun _ => q, fun z => absurd (by rw [bI_0]; exact e) z⟩))), fun e => ?_⟩
  obtain ⟨hx, hy⟩ := two_in H e
  obtain ⟨s2, H2, ⟨c, R⟩, L⟩ := way_ok (d := 7) H R0 (vi_mono hx (by omega)) (vi_mono hy (by omega))
  generalize rt_way h 0 n x y = g at s2 H2 R L
  have s3 := sx_lr (d := 8) H2.1 R
  have s4 := sx_cs (d := 9) H2.1 R
  have s5 := sx_rtold (d := 8) R z (-1000)
  refine ⟨c, R, fun Q q => ?_⟩
  unfold qv_path at q
  refine en_X8_path (by decide) (go_X8_path_0 (by decide) (s1 _ (go_X8_path_9 (by decide) ⟨fun z => ?_, fun _ => go_X8_path_16 (by decide) (s2 _ (go_X8_path_29 (by decide) ⟨fun c => go_X8_path_104 (by decide) (s5 _ (go_X8_path_115 (by decide) ?_)), fun c => go_X8_path_56 (by decide) ?_, fun c => go_X8_path_64 (by decide) (s3 _ (go_X8_path_75 (by decide) ⟨fun c2 => go_X8_path_89 (by decide) (go_X8_path_91 (by decide) ?_), fun c2 => go_X8_path_91 (by decide) ?_⟩)), fun c => go_X8_path_92 (by decide) (s4 _ (go_X8_path_103 (by decide) ?_)), trivial⟩))⟩)))
  · rw [bI_0, e] at z
    exact absurd z (by decide)
  · rw [if_neg (by omega), if_neg (by omega), if_neg (by omega)] at q
    exact q
  · rw [c] at q
    exact q
  · rw [c, qv_wayL, if_pos c2] at q
    exact q
  · rw [c, qv_wayL, if_neg c2] at q
    exact q
  · rw [c] at q
    exact q
theorem two_eqr (G : GI r n k M) (N : NR h 0 r n k m) (x y : Int32) : nt_two h 0 x y = rf_two r x y := by
  have e0 := N.1.1.1
  have r0 := G.1.2.1
  have n7 := G.1.1
  have pt : ∀ z, nt_hasPt h 0 z = rf_isPt r z := by
    intro z
    unfold nt_hasPt rf_isPt
    rw [e0, r0]
    by_cases z0 : z < 0
    · unfold rf_in
      simp [z0]
    · obtain ⟨j, hj, e⟩ := nI_of z0
      subst e
      by_cases jn : j < n
      · rw [(rin_lt hj (by omega)).mpr jn]
        have : ¬ nI n ≤ nI j := nI_ge jn (by omega)
        simp [z0, this]
      · rw [Bool.eq_false_iff.mpr (fun w => jn ((rin_lt hj (by omega)).mp w))]
        have : nI n ≤ nI j := nI_le (by omega) hj
        simp [this]
  unfold nt_two rf_two
  rw [pt, pt]
theorem xv_path {hc : LH} (G0 : GI g n k M) (N : NR h 0 g n k m) (H : NO h 0 n k) {c : Nat} (x y w : Int32) (Rc : nt_two h 0 x y = true → RO (rt_way h 0 n x y) c) : XV 79 [.int x, .int y, .int w] g (if nt_two h 0 x y = true then qv_path (rt_way h 0 n x y) c w else -1000) := by
  intro Q q
  have q2 : ∀ (v : Int32) (g : LH), v = (if nt_two h 0 x y = true then qv_path (rt_way h 0 n x y) c w else -1000) → Q (.int v) g := fun v g e => q _ g (by rw [e])
  clear q
  have G : GI (w1 g 270 0 0) n k M := G0.w (by decide)
  have N1 : NR h 0 (w1 g 270 0 0) n k m := N.w0 G0
  obtain ⟨T, P, C, Pe, E, F, Co, S, G2⟩ := N1.lay G
  have e2 := two_eqr G N1 x y
  refine en_X9_path (by decide) (go_X9_path_0 (by decide) ?_)
  show tf_Cd 298 10 _ _ (w1 g 270 0 0) _
  generalize w1 g 270 0 0 = h1 at *
  refine sx_rtwo (d := 7) x y _ (go_X9_path_11 (by decide) ⟨fun b => q2 _ _ ?_, fun b => go_X9_path_18 (by decide) ?_⟩)
  · rw [bI_0, ← e2] at b
    rw [b]
    rfl
  rw [bI_0, Bool.not_eq_false] at b
  rw [b] at e2
  have Rc := Rc e2
  rw [if_pos e2] at q2
  obtain ⟨p, o, hp, ho, -, ep, eo⟩ := rf_two_t G.1 b
  subst ep eo
  have hn := G.1.1
  refine sx_lt (d := 7) G.1 _ (go_X9_path_22 (by decide) ?_)
  have Fl1 := lt_fl (h := h1) (n := n) (k := k)
  generalize lt h1 n k = g at *
  obtain ⟨i, j, hi, hj, ei, ej, ds⟩ := mt_ok T _ p o (show p ≤ n by omega) (show o ≤ n by omega) (Nat.le_refl _)
  have hij := br_le T (show p ≤ n by omega) (show o ≤ n by omega) hi hj ds
  refine sx_mt (d := 9) T (show p ≤ n by omega) (show o ≤ n by omega) _ (go_X9_path_29 (by decide) ?_)
  generalize mt g (df g p + df g o) p o = z at *
  have ett : tw g i p = tw g j o := ei.symm.trans ej
  have r31 : (w1 (w1 g 270 31 (nI z)) 270 30 0).1 270 31 = nI z := (w1_at (by decide)).trans w1_eq
  have r30 : (w1 (w1 g 270 31 (nI z)) 270 30 0).1 270 30 = nI 0 := w1_eq
  have FJ : Fj g (w1 (w1 g 270 31 (nI z)) 270 30 0) := ⟨fun e _ _ h3 => by rw [w1_ne h3, w1_ne h3], rfl, fun i h1 h2 => by rw [w1_at h1, w1_at h2]⟩
  show tf_Cd 298 10 _ [.ref 270, .int (nI p), .int ((w1 (w1 g 270 31 (nI z)) 270 30 0).1 270 31)] (w1 (w1 g 270 31 (nI z)) 270 30 0) _
  generalize w1 (w1 g 270 31 (nI z)) 270 30 0 = g1 at *
  rw [r31]
  have T1 : LT g1 n k := FJ.lt T
  have Y1 : CY g1 0 := ⟨r30, by omega, fun i hi => absurd hi (by omega)⟩
  have q1 : g1.1 281 = g.1 281 := FJ.1 281 (by decide) (by decide) (by decide)
  have q22 : g1.1 282 = g.1 282 := FJ.1 282 (by decide) (by decide) (by decide)
  have q71 : g1.1 271 = g.1 271 := FJ.1 271 (by decide) (by decide) (by decide)
  have q3 : g1.1 283 = g.1 283 := FJ.1 283 (by decide) (by decide) (by decide)
  have wy := wy_eq T (b := 0) (by omega) C E G2.2.2.2.2.1.1 (show p ≤ n by omega) (show o ≤ n by omega) hi hj ett ds hij q1 q22 q71
  rw [cI_lt hp, cI_lt ho] at wy
  have s1 := sx_gu (d := 6) T1 (c := 0) (j := i) (y := p) (to := z) Y1 (by omega) (by rw [df_same q3]; exact hi) (by omega) (by rw [tw_same q1]; exact ei.symm)
  obtain ⟨Y2, K2⟩ := gu_ok i 0 p g1 T1 Y1 (by omega) (by rw [df_same q3]; exact hi) (by omega)
  refine s1 _ (go_X9_path_46 (by decide) ?_)
  rw [Nat.zero_add] at Y2
  have dd2 : ∀ m, m < i → ED n k ((gu 0 i p g1).1 285 m) := fun m hm => by
    have := gu_at i 0 p m g1 hm
    rw [Nat.zero_add, q22, tw_same q1] at this
    rw [this]
    exact by_ed T (tw_lt T (by omega) (by omega))
  generalize gu 0 i p g1 = g2 at *
  rw [K2.2.2 31 (by decide), r31]
  have T2 : LT g2 n k := K2.lt T1
  have p1 : g2.1 281 = g.1 281 := (K2.1 281 (by decide) (by decide) (by decide)).trans q1
  have p2 : g2.1 282 = g.1 282 := (K2.1 282 (by decide) (by decide) (by decide)).trans q22
  have p3 : g2.1 283 = g.1 283 := (K2.1 283 (by decide) (by decide) (by decide)).trans q3
  have s2 := sx_gd (d := 6) T2 (c := i) (i := j) (x := o) (z := z) Y2 (by omega) (by rw [df_same p3]; exact hj) (by omega) (by rw [tw_same p1]; exact ej.symm)
  obtain ⟨Y3, K3⟩ := gd_ok j i o g2 T2 Y2 (by omega) (by rw [df_same p3]; exact hj) (by omega)
  refine s2 _ (go_X9_path_55 (by decide) ?_)
  have D3 : ∀ m, m < i + j → ED n k ((gd i j o g2).1 285 m) := fun m hm => by
    rcases Nat.lt_or_ge m i with y | y
    · rw [(gd_ids j i o _).1 m y]
      exact dd2 m y
    · obtain ⟨m', rfl⟩ : ∃ m', m = i + m' := ⟨m - i, by omega⟩
      rw [gd_at j i o m' g2 (by omega), p2, tw_same p1]
      exact by_ed T (tw_lt T (by omega) (by omega))
  generalize gd i j o g2 = g3 at *
  obtain ⟨w2, row, lo⟩ := wy
  have e371 : g3.1 271 = g.1 271 := ((K3.1 271 (by decide) (by decide) (by decide)).trans (K2.1 271 (by decide) (by decide) (by decide))).trans q71
  have cij : c = i + j := (nI_eq (by have := Rc.2.1; omega) (by omega)).mp (Rc.1.symm.trans w2)
  subst cij
  have lof : ∀ o, o ≤ 14 → (rt_way h 0 n (nI p) (nI o)).1 (0 + o) = (rt_way h 0 n (nI p) (nI o)).1 (0 + o) := fun _ _ => rfl
  generalize rt_way h 0 n (nI p) (nI o) = W at *
  have FW : FLe W 0 g n k := ⟨fun a ha => by rw [lo (0 + 4) (by omega), lo (0 + 6) (by omega)]; exact F.1 a ha, fun p hp => by rw [lo (0 + 6) (by omega)]; exact F.2 p hp⟩
  have CW : COe W 0 g3 n k := ⟨fun a ha => by rw [lo (0 + 5) (by omega)]; unfold rm; rw [e371]; exact Co.1 a ha, fun p hp => by rw [lo (0 + 5) (by omega)]; exact Co.2 p hp⟩
  have lr := lr_eq (h := W) (b := 0) (R := g3) (c := i + j) (fun m hm => by
    rw [(row m hm).1, (row m hm).2]
    exact room_eq hn.2.1 hn.2.2 FW e371 (D3 m hm)) (i + j) 0 1000000 (by omega)
  have tv := told_v (g := W) hn.2.1 hn.2.2 (show i + j ≤ 8 by omega) w2 (fun m hm => (row m hm).1) D3 w (-1000)
  have rle := (rlr_le (g := g3) (i + j) 0 1000000).1
  unfold qv_path qv_wayL at q2
  rw [w2, lr, tv] at q2
  have w012 : ∀ m : Nat, m < 1000 → (w.toInt = (m : Int) ↔ w = nI m) := fun m hm => ⟨fun e => ti_n (by omega) e, fun e => by rw [e, nI_toInt (by omega)]⟩
  have x0 : w.toInt = 0 ↔ w = 0 := w012 0 (by omega)
  have x1 : w.toInt = 1 ↔ w = 1 := w012 1 (by omega)
  have x2 : w.toInt = 2 ↔ w = 2 := w012 2 (by omega)
  refine ⟨fun e => q2 _ _ (by rw [if_pos (x0.mpr e), Y3.1]), fun n0 => go_X9_path_64 (by decide) ⟨fun e => sx_rlr (d := 7) Y3 _ (go_X9_path_73 (by decide) ⟨fun e1 => go_X9_path_89 (by decide) (q2 _ _ ?_), fun e1 => go_X9_path_87 (by decide) (go_X9_path_89 (by decide) (q2 _ _ ?_))⟩), fun n1 => go_X9_path_90 (by decide) ⟨fun e => en_X9_costOfCycle (by decide) (go_X9_costOfCycle_0 (by decide) (xv_ccL (d := 8) (hc := W) (b := 0) Y3 (K3.lt T2).1 D3 CW row (i + j) 0 0 _ (by omega) (go_X9_path_99 (by decide) (go_X9_path_134 (by decide) (q2 _ _ ?_))))), fun n2 => go_X9_path_102 (by decide) (sx_in (d := 9) _ _ _ _ (go_X9_path_116 (by decide) ⟨fun b => go_X9_path_131 (by decide) (go_X9_path_134 (by decide) (q2 _ _ ?_)), fun b => ⟨?_, go_X9_path_134 (by decide) (q2 _ _ ?_)⟩⟩))⟩⟩⟩
  · have := x1.mpr e
    rw [if_neg (by omega), if_pos this, e1, if_neg (by decide)]
  · have := x1.mpr e
    rw [if_neg (by omega), if_pos this, if_pos]
    exact Int32.lt_of_le_of_ne rle e1
  · have := x2.mpr e
    rw [if_neg (by omega), if_neg (by omega), if_pos this]
  · rw [bI_0, Y3.1] at b
    rw [if_neg (fun y => n0 (x0.mp y)), if_neg (fun y => n1 (x1.mp y)), if_neg (fun y => n2 (x2.mp y)), b]
    rfl
  · rw [bI_0, Bool.not_eq_false, Y3.1] at b
    exact in_c Y3.2.1 b
  · rw [bI_0, Bool.not_eq_false, Y3.1] at b
    rw [if_neg (fun y => n0 (x0.mp y)), if_neg (fun y => n1 (x1.mp y)), if_neg (fun y => n2 (x2.mp y)), if_pos b]
theorem ze_17 (I : IZ h t) (x y z : Int32) : lk_eq h 196 [.ref 240, .int x, .int y, .int z] 79 [.ref 270, .int x, .int y, .int z] (fun g => IZ g (t + 1)) := by
  obtain ⟨n, k, m, hm, H, G, N⟩ := I.1.1
  obtain ⟨c0, R0⟩ := I.2.1.1.1.1.2.1
  obtain ⟨a, b⟩ := cv_path H.1 R0 x y z
  by_cases e : nt_two h 0 x y = true
  · obtain ⟨c, Rc, s⟩ := b e
    have F := rt_way_fr (h := h) (b := 0) (n := n) (u := x) (v := y)
    have rw1 : RW h (rt_way h 0 n x y) := RW.of (F.1 271 (by decide))
    have := xv_path (hc := h) (G.cong rw1) (N.rw rw1 G.1.1.2.1 G.1.1.2.2) H.1 x y z (fun _ => Rc)
    rw [if_pos e] at this
    exact ze_q (iz_17 I x y z) s this
  · have := xv_path (hc := h) (c := 0) G N H.1 x y z (fun y => absurd y e)
    rw [if_neg e] at this
    exact ze_q (iz_17 I x y z) (a (Bool.eq_false_iff.mpr e)) this
end TDP
