/-! ===== pivots, rule, cold on both sides ===== -/
section ROA
variable {h g h2 g2 g3 g4 k0 q r r2 : LH} {b n k m t u M d : Nat}
def RTx (r r2 : LH) (n k : Nat) : Prop := RT r r2 n k ∧ ∀ i, 44 ≤ i → i < 170 → r2.1 271 i = r.1 271 i
theorem NRt.mv (N : NRt h b r n k) (A : ∀ a, a < k → rm r a 0 ≠ rm r a 1) (G : GI r2 n k M) (RX : RTx r r2 n k) : NRt h b r2 n k := by
  obtain ⟨R, RI⟩ := RX
  obtain ⟨T, L, P, R1, C, Pe, S, KK⟩ := N
  have k14 := L.1.1.2.2
  have n7 := L.1.1.2.1
  have L2 := G.lt
  have P2 := lt_pr G.1
  have R2 : RW r2 (lt r2 n k) := fun i _ => by rw [lt_fl.r]
  generalize lt r2 n k = T2 at L2 P2 R2
  have RR : RT T T2 n k := by
    refine ⟨fun p hp => ⟨?_, ?_⟩, fun a ha => ⟨⟨?_, ?_, ?_⟩, ?_⟩⟩
    · rw [R2 _ (by omega), R1 _ (by omega)]; exact (R.1 p hp).1
    · rw [R2 _ (by omega), R1 _ (by omega)]; exact (R.1 p hp).2
    · rw [R2.rm (by omega) (by omega), R1.rm (by omega) (by omega)]; exact (R.2 a ha).1.1
    · rw [R2.rm (by omega) (by omega), R1.rm (by omega) (by omega)]; exact (R.2 a ha).1.2.1
    · rw [R2.rm (by omega) (by omega), R1.rm (by omega) (by omega)]; exact (R.2 a ha).1.2.2
    · have := (R.2 a ha).2
      unfold rf_hangs at this ⊢
      rw [R2.rm (by omega) (by omega), R1.rm (by omega) (by omega)]; exact this
  obtain ⟨x1, x2, x3⟩ := tree_mv L P C Pe S (fun a ha => by rw [R1.rm (by omega) (by omega), R1.rm (by omega) (by omega)]; exact A a ha) L2 P2 RR
  exact ⟨T2, L2, P2, R2, x1, x2, x3, KK.to n7 k14 (fun i z1 z2 _ => by rw [R2 i z2, R1 i z2]; exact RI i z1 z2) (fun p hp => eK_inj n7 k14 ((L2.at hp).2.2.2.2.2.ed hp) ((L.at hp).2.2.2.2.2.ed hp) ((x1 p hp).2.symm.trans (C p hp).2))⟩
theorem RT.of (e : ∀ i, 44 ≤ i → i < 170 → r2.1 271 i = r.1 271 i) (n7 : n ≤ 7) (k14 : k ≤ 14) : RTx r r2 n k := by
  have er : ∀ a w, a < k → w < 7 → rm r2 a w = rm r a w := fun a w ha hw => e _ (by omega) (by omega)
  exact ⟨⟨fun p hp => ⟨by rw [e _ (by omega) (by omega)], e _ (by omega) (by omega)⟩, fun a ha => ⟨⟨er a 0 ha (by omega), er a 1 ha (by omega), er a 3 ha (by omega)⟩, by unfold rf_hangs; rw [er a 5 ha (by omega)]⟩⟩, e⟩
theorem NS.mv (N : NS h b r n k) (n7 : n ≤ 7) (k14 : k ≤ 14) (e0 : h2.1 b 0 = h.1 b 0) (e1 : h2.1 b 1 = h.1 b 1) (e2 : h2.1 b 2 = r2.1 271 2) (ec : ∀ o, 1 ≤ o → o ≤ 7 → h2.1 (b + o) = h.1 (b + o)) (e : ∀ i, 44 ≤ i → i < 170 → r2.1 271 i = r.1 271 i) : NS h2 b r2 n k := by
  obtain ⟨⟨a1, a2, a3⟩, a4, a5, a6, a7, a8⟩ := N
  have er : ∀ a w, a < k → w < 7 → rm r2 a w = rm r a w := fun a w ha hw => e _ (by omega) (by omega)
  refine ⟨⟨e0.trans a1, e1.trans a2, e2⟩, fun p hp => by rw [ec 1 (by omega) (by omega), e _ (by omega) (by omega)]; exact a4 p hp, ⟨fun a ha => ?_, fun p hp => ?_⟩, ⟨fun a ha => ?_, fun p hp => ?_⟩, ⟨fun a ha => ?_, fun p hp => ?_⟩, fun a ha => ?_⟩
  · rw [ec 2 (by omega) (by omega), ec 3 (by omega) (by omega), er a 0 ha (by omega), er a 1 ha (by omega)]; exact a5.1 a ha
  · rw [ec 2 (by omega) (by omega), ec 3 (by omega) (by omega), e _ (by omega) (by omega)]; exact a5.2 p hp
  · rw [ec 4 (by omega) (by omega), ec 6 (by omega) (by omega), er a 2 ha (by omega), er a 4 ha (by omega)]; exact a6.1 a ha
  · rw [ec 6 (by omega) (by omega), e _ (by omega) (by omega)]; exact a6.2 p hp
  · rw [ec 5 (by omega) (by omega), er a 3 ha (by omega)]; exact a7.1 a ha
  · rw [ec 5 (by omega) (by omega)]; exact a7.2 p hp
  · rw [ec 7 (by omega) (by omega), er a 5 ha (by omega), er a 6 ha (by omega)]; exact a8 a ha
theorem TA.mv (A : TA h b r m) (ec : ∀ o, 11 ≤ o → o ≤ 14 → h2.1 (b + o) = h.1 (b + o)) (e : ∀ i, 3 ≤ i → i < 44 → r2.1 271 i = r.1 271 i) : TA h2 b r2 m := by
  obtain ⟨⟨b1, b2⟩, ⟨b3, b4, b5⟩, b6, b7⟩ := A
  unfold TA
  rw [ec 11 (by omega) (by omega), ec 12 (by omega) (by omega), ec 13 (by omega) (by omega), ec 14 (by omega) (by omega), e 3 (by omega) (by omega), e 4 (by omega) (by omega), e 5 (by omega) (by omega), e 6 (by omega) (by omega), e 7 (by omega) (by omega)]
  refine ⟨⟨b1, b2⟩, ⟨b3, b4, b5⟩, b6, fun j h1 h2 => ?_⟩
  rw [e (8 + 3 * j) (by omega) (by omega), e (9 + 3 * j) (by omega) (by omega), e (10 + 3 * j) (by omega) (by omega)]
  exact b7 j h1 h2
/-- begin again, on both sides -/
theorem rx_bga (hb : b ≤ 225) (B : BI r n k) (N : NB h b r n k) (A : TA h b r m) (w : Int32) : tf_Sp (d + 3) 52 [.ref 270, .int w] r (fun _ r2 => GI r2 n k M ∧ (∀ e, e ≠ 271 → r2.1 e = r.1 e) ∧ (∀ ix, 170 ≤ ix → r2.1 271 ix = r.1 271 ix) ∧ NR (nt_beg h b n k w) b r2 n k m) := by
  have n7 := B.1.1.2.1
  have k14 := B.1.1.2.2
  have s : tf_Sp (d + 3) 52 [.ref 270, .int w] r (fun _ r2 => r2 = w1 (bgn r n k w) 271 5 ((bgn r n k w).1 271 5 + 1)) := fun Q q => en_X9_beginsAgain (by decide) (go_X9_beginsAgain_0 (by decide) (sx_bgn (d := d) B.1 w _ (go_X9_beginsAgain_5 (by decide) (q _ _ rfl))))
  refine ((sp_bga (d := d) (M := M) B w).cj s).mp (fun _ r2 p => ?_)
  obtain ⟨⟨G2, f1, -, f2⟩, e⟩ := p
  obtain ⟨N1, N2, N3, N4, N5⟩ := nr_beg hb B N w
  obtain ⟨G1, Fb1⟩ := bgn_ok (M := 0) (w := w) B
  have er : ∀ i, i ≠ 5 → r2.1 271 i = (bgn r n k w).1 271 i := fun i hi => by rw [e, w1_at hi]
  have e5 : r2.1 271 5 = r.1 271 5 + 1 := by rw [e, w1_eq, Fb1.2.2 5 (Or.inl (by omega))]
  have A1 : ∀ a, a < k → rm (bgn r n k w) a 0 ≠ rm (bgn r n k w) a 1 := G1.2.2.2.2.1.1
  have f3 : ∀ i, i < 44 → i ≠ 5 → r2.1 271 i = r.1 271 i := fun i h1 h2 => f2 i (Or.inl (by omega)) h2
  generalize bgn r n k w = g1 at N1 N2 A1 er
  refine ⟨G2, f1, fun ix hx => f2 ix (Or.inr (Or.inl hx)) (by omega), N1.mv n7 k14 rfl rfl (by rw [er 2 (by omega)]; exact N1.1.2.2) (fun _ _ _ => rfl) (fun i z1 z2 => er i (by omega)), N2.mv A1 G2 (RT.of (fun i z1 z2 => er i (by omega)) n7 k14), ?_⟩
  obtain ⟨⟨b1, b2⟩, ⟨b3, b4, b5⟩, b6, b7⟩ := A
  refine ⟨⟨by rw [N4 0 (by omega)]; exact b1, by rw [f3 3 (by omega) (by omega)]; exact b2⟩, ⟨by rw [N4 1 (by omega), f3 4 (by omega) (by omega)]; exact b3, by rw [N3, e5, b4], by rw [N4 3 (by omega), f3 6 (by omega) (by omega)]; exact b5⟩, by rw [f3 7 (by omega) (by omega)]; exact b6, fun j z1 z2 => ?_⟩
  rw [N5 (b + 12) (Or.inr (by omega)), N5 (b + 13) (Or.inr (by omega)), N5 (b + 14) (Or.inr (by omega)), f3 (8 + 3 * j) (by omega) (by omega), f3 (9 + 3 * j) (by omega) (by omega), f3 (10 + 3 * j) (by omega) (by omega)]
  exact b7 j z1 z2
/-- what an act that was refused leaves -/
theorem IZ.no (I : IZ h t) (fe : ∀ e, e ≠ 270 → e < 276 → k0.1 e = (ac_sv h).1 e) (f5 : k0.1 270 5 = (ac_sv h).1 270 5) : NZ k0 (t + 1) := by
  have X := I.2.1.1.1.1
  obtain ⟨X1, F1, e15⟩ := sv_ok X
  have c : ∀ e, 270 ≤ e → (ac_sv h).1 e = h.1 e := fun e he => F1.1 e (by omega)
  have Z := NZ.no I.1 X (k := k0) (fun e he => fe e (by omega) (by omega)) (by rw [fe 273 (by decide) (by decide), c 273 (by decide)]) (fun ix _ _ => by rw [fe 271 (by decide) (by decide), c 271 (by decide)]) (by rw [f5, c 270 (by decide)]) (by rw [fe 274 (by decide) (by decide), c 274 (by decide)])
  exact ⟨Z.1.up (by omega), Z.2.1.up (by omega), Z.2.2.up (by omega)⟩
/-- what a call that never began leaves -/
theorem NZ.nn (Z : NZ h t) (fe : ∀ e, e ≠ 270 → e < 276 → k0.1 e = h.1 e) (f5 : k0.1 270 5 = h.1 270 5) : NZ k0 (t + 1) := by
  obtain ⟨N, U, I⟩ := Z
  obtain ⟨tt, u, h1, h2, h3, h4, h5, h6⟩ := id U
  exact ⟨((N.cl (fun o ho => fe _ (by omega) (by omega))).rw (fun i hi => by rw [fe 271 (by decide) (by decide)])).up (by omega), (U.no h3 h1 (by rw [fe 240 (by omega) (by omega)]) (by rw [fe 240 (by omega) (by omega)]) (fun e z1 z2 z3 => fe e (by omega) (by omega)) f5 (fe 274 (by omega) (by omega))).up (by omega), (I.same (fun e z1 z2 => fe e (by omega) (by omega)) (fe 273 (by omega) (by omega)) (fun ix z1 z2 => by rw [fe 271 (by omega) (by omega)])).up (by omega)⟩
/-- what was put on the undo rows -/
def KP (h g : LH) (u : Nat) : Prop := g.1 270 5 = nI (if u = 10 then 10 else u + 1) ∧ (∀ j, j < 170 → g.1 274 (170 * ((if u = 10 then 10 else u + 1) - 1) + j) = h.1 271 j) ∧ (∀ i, i < (if u = 10 then 10 else u + 1) - 1 → ∀ j, j < 170 → g.1 274 (170 * i + j) = h.1 274 (170 * (if u = 10 then i + 1 else i) + j)) ∧ (∀ e, e ≠ 274 → e ≠ 270 → g.1 e = h.1 e) ∧ ∀ i, i ≠ 5 → g.1 270 i = h.1 270 i
theorem rx_kp (hu : u ≤ 10) (eu : h.1 270 5 = nI u) : tf_Sp (d + 1) 53 [.ref 270, .int 0] h (fun _ g => KP h g u) := (rx_keeps (d := d) (s := 0) (by omega) hu eu).mp (fun _ g p => ⟨p.1, fun j hj => by rw [p.2.1 j hj, Nat.mul_zero, Nat.zero_add], p.2.2⟩)
theorem IZ.un (I : IZ h t) : ∃ u, u ≤ 10 ∧ h.1 270 5 = nI u := by
  obtain ⟨-, ⟨tt, u, h1, h2, h3, h4, h5, h6⟩, -⟩ := I.1
  exact ⟨u, h2, h5⟩
/-- what an act that was done leaves -/
theorem IZ.dn (I : IZ h t) (hu : u ≤ 10) (eu : h.1 270 5 = nI u) (c : ∀ e, 15 ≤ e → e < 241 → g2.1 e = (ac_sv h).1 e) (c2 : ∀ e, 270 ≤ e → g2.1 e = h.1 e) (qe : ∀ e, e ≠ 270 → e < 276 → q.1 e = (ac_ca g2 1).1 e) (K : KP q g3 u) (f : ∀ e, e < 276 → e ≠ 271 → e ≠ 270 → g4.1 e = g3.1 e) (f5 : g4.1 270 5 = g3.1 270 5) (f1 : ∀ ix, 173 ≤ ix → ix < 692 → g4.1 271 ix = g3.1 271 ix) (N0 : ∃ n k m, m ≤ 2000000 * (t + 1) ∧ NT g2 0 n k m ∧ GI g4 n k (8000 * (t + 1)) ∧ NR g2 0 g4 n k m) : NZ g4 (t + 1) := by
  have X := I.2.1.1.1.1
  obtain ⟨a1, -⟩ := ac_ca_1 (h := g2) 1
  obtain ⟨k5, k1, k2, k3, k4⟩ := K
  have qh : ∀ e, 271 ≤ e → e < 276 → q.1 e = h.1 e := fun e h1 h2 => by rw [qe e (by omega) h2, a1 e (by omega), c2 e (by omega)]
  have lo : ∀ e, e < 270 → g4.1 e = (ac_ca g2 1).1 e := fun e he => by rw [f e (by omega) (by omega) (by omega), k3 e (by omega) (by omega), qe e (by omega) (by omega)]
  have l15 : ∀ e, e < 15 → g4.1 e = g2.1 e := fun e he => by rw [lo e (by omega), a1 e (by omega)]
  obtain ⟨n, k, m, hm, H, G, N⟩ := N0
  refine NZ.done I.1 X (by omega) (g2 := g2) c lo ⟨n, k, m, hm, H.same (fun e _ h2 => l15 e (by omega)), G, N.eq G.1.1.2.1 G.1.1.2.2 (fun o ho => l15 (0 + o) (by omega))⟩ ?_ (fun ix h1 h2 => ?_) (fun u2 hu2 eu2 => ?_)
  · rw [f 273 (by omega) (by omega) (by omega), k3 273 (by omega) (by omega), qh 273 (by omega) (by omega)]
  · rw [f1 ix h1 h2, k3 271 (by omega) (by omega), qh 271 (by omega) (by omega)]
  · have uu : u2 = u := (nI_eq (by omega) (by omega)).mp (eu2.symm.trans eu)
    subst uu
    refine ⟨by rw [f5]; exact k5, fun j hj => ?_, fun i hi j hj => ?_⟩
    · rw [f 274 (by omega) (by omega) (by omega), k1 j hj, qh 271 (by omega) (by omega)]
    · rw [f 274 (by omega) (by omega) (by omega), k2 i hi j hj, qh 274 (by omega) (by omega)]
theorem ac_ca_0 : ac_ca h (bI false) = h := by
  unfold ac_ca
  rw [if_pos (show bI false = 0 from rfl)]
theorem isR_in (x : Int32) : nt_isR x = rf_in x 0 2 := rfl
theorem zz_5 (I : IZ h t) (ht : t ≤ 511) (x : Int32) : lk_eq h 186 [.ref 240, .int x] 56 [.ref 270, .int x] (fun g => NZ g (t + 1)) := by
  have X := I.2.1.1.1.1
  obtain ⟨n, k, m, c, hm, H, R, G, N, e15, X1, C1⟩ := I.net ht
  obtain ⟨u, hu, eu⟩ := I.un
  have n7 := G.1.1.2.1
  have k14 := G.1.1.2.2
  have s1 := sx_sv (d := 7) X
  have s2 := sx_setRule (d := 8) (h := ac_sv h) (b := 0) (by decide +kernel) x
  have s3 := fun g2 => sx_ca (d := 9) (h := g2) (nt_isR x)
  have rC : tf_Rt 11 186 [.ref 240, .int x] h (.int (bI (nt_isR x))) (ac_ca (if nt_isR x = true then w1 (ac_sv h) 0 2 x else ac_sv h) (bI (nt_isR x))) := fun Q q => en_X8_rule (by decide) (go_X8_rule_0 (by decide) (s1 _ (go_X8_rule_4 (by decide) (s2 _ (go_X8_rule_13 (by decide) (s3 _ _ (go_X8_rule_16 (by decide) ⟨bI_nar _, q⟩)))))))
  refine rC.sp ⟨_, rfl, ?_⟩
  intro Q q
  refine en_X9_rule (by decide) (go_X9_rule_0 (by decide) ?_)
  refine sx_in (d := 9) _ _ _ _ (go_X9_rule_11 (by decide) ⟨fun c => ?_, fun c => go_X9_rule_16 (by decide) ?_⟩)
  · rw [bI_0, ← isR_in] at c
    rw [c, if_neg (by decide), ac_ca_0]
    rw [c] at q
    refine q _ _ ⟨rfl, I.no (fun e h1 _ => ?_) ?_⟩
    · exact w1_ne (h := ac_sv h) (c := 270) h1
    · exact w1_at (h := ac_sv h) (c := 270) (by decide)
  · rw [bI_0, Bool.not_eq_false, ← isR_in] at c
    rw [c, if_pos rfl]
    rw [c] at q
    show tf_Cd 298 10 _ _ (w1 (ac_ca (w1 (ac_sv h) 0 2 x) 1) 270 0 0) _
    have g2e : ∀ e, e ≠ 0 → (w1 (ac_sv h) 0 2 x).1 e = (ac_sv h).1 e := fun e he => w1_ne he
    have g20 : (w1 (ac_sv h) 0 2 x).1 0 0 = (ac_sv h).1 0 0 ∧ (w1 (ac_sv h) 0 2 x).1 0 1 = (ac_sv h).1 0 1 ∧ (w1 (ac_sv h) 0 2 x).1 0 2 = x := ⟨w1_at (by decide), w1_at (by decide), w1_eq⟩
    have H2 : NT (w1 (ac_sv h) 0 2 x) 0 n k m := by
      obtain ⟨⟨K, hb, h0, hk, hu, hue, ht, hh⟩, hm2, hs⟩ := H
      refine ⟨⟨K, hb, by rw [w1_at (by decide)]; exact h0, by rw [w1_at (by decide)]; exact hk, fun p hp => ?_, fun p hp => ?_, fun a ha => ?_, fun a ha => ?_⟩, by rw [w1_ne (by decide)]; exact hm2, by rw [w1_ne (by decide)]; exact hs⟩
      · rw [w1_ne (by decide)]; exact hu p hp
      · rw [w1_ne (by decide)]; exact hue p hp
      · rw [w1_ne (by decide)]; exact ht a ha
      · rw [w1_ne (by decide)]; exact hh a ha
    generalize w1 (ac_sv h) 0 2 x = g2 at g2e g20 H2
    obtain ⟨a1, -⟩ := ac_ca_1 (h := g2) 1
    have qe : ∀ e, e ≠ 270 → (w1 (ac_ca g2 1) 270 0 0).1 e = (ac_ca g2 1).1 e := fun e he => w1_ne he
    have q5 : (w1 (ac_ca g2 1) 270 0 0).1 270 5 = nI u := by rw [w1_at (by decide), a1 270 (by decide), g2e 270 (by decide), C1.1 270 (by decide), eu]
    generalize w1 (ac_ca g2 1) 270 0 0 = q1 at qe q5
    refine rx_kp (d := 9) hu q5 _ (fun v g3 p => go_X9_rule_21 (by decide) (q _ _ ⟨rfl, I.dn hu eu (fun e h1 h2 => g2e e (by omega)) (fun e he => by rw [g2e e (by omega), C1.1 e he]) (fun e h1 _ => qe e h1) p (fun e h1 h2 h3 => w1_ne h2) (by rw [w1_ne (by decide)]) (fun ix h1 h2 => w1_at (i := 2) (by omega)) ?_⟩))
    have r3 : g3.1 271 = h.1 271 := by rw [p.2.2.2.1 271 (by decide) (by decide), qe 271 (by decide), a1 271 (by decide), g2e 271 (by decide), C1.1 271 (by decide)]
    have G3 : GI (w1 g3 271 2 x) n k (8000 * (t + 1)) := ((G.cong (RW.of r3)).mono (by omega)).ru
    have ew : ∀ i, i ≠ 2 → (w1 g3 271 2 x).1 271 i = h.1 271 i := fun i hi => by rw [w1_at hi, r3]
    have ew2 : (w1 g3 271 2 x).1 271 2 = x := w1_eq
    refine ⟨n, k, m, by omega, H2, G3, ?_⟩
    exact ⟨N.1.mv n7 k14 g20.1 g20.2.1 (g20.2.2.trans ew2.symm) (fun o h1 h2 => g2e _ (by omega)) (fun i h1 h2 => ew i (by omega)), (N.2.1.mv G.2.2.2.2.1.1 G3 (RT.of (fun i h1 h2 => ew i (by omega)) n7 k14)).cl n7 (fun p _ => by rw [g2e _ (by omega)]) (fun p _ => by rw [g2e _ (by omega)]) (fun p _ => by rw [g2e _ (by omega)]), N.2.2.mv (fun o h1 h2 => g2e _ (by omega)) (fun i h1 h2 => ew i (by omega))⟩
/-- the heap at which the reference begins, after an act was done -/
theorem q_beg (I : IZ h t) (eu : h.1 270 5 = nI u) (c2 : ∀ e, 270 ≤ e → g2.1 e = h.1 e) : ∃ q1 : LH, q1 = w1 (ac_ca g2 1) 270 0 0 ∧ (∀ e, e ≠ 270 → q1.1 e = (ac_ca g2 1).1 e) ∧ q1.1 270 5 = nI u ∧ q1.1 271 = h.1 271 ∧ q1.1 274 = h.1 274 ∧ q1.1 270 5 = h.1 270 5 := by
  obtain ⟨a1, -⟩ := ac_ca_1 (h := g2) 1
  have e5 : (w1 (ac_ca g2 1) 270 0 0).1 270 5 = h.1 270 5 := by rw [w1_at (by decide), a1 270 (by decide), c2 270 (by decide)]
  exact ⟨_, rfl, fun e he => w1_ne he, e5.trans eu, by rw [w1_ne (by decide), a1 271 (by decide), c2 271 (by decide)], by rw [w1_ne (by decide), a1 274 (by decide), c2 274 (by decide)], e5⟩
theorem zz_10 (I : IZ h t) (ht : t ≤ 511) : lk_vo h 191 [.ref 240] 66 [.ref 270] (fun g => NZ g (t + 1)) := by
  have X := I.2.1.1.1.1
  obtain ⟨n, k, m, c, hm, H, R, G, N, e15, X1, C1⟩ := I.net ht
  obtain ⟨u, hu, eu⟩ := I.un
  have n7 := G.1.1.2.1
  have k14 := G.1.1.2.2
  have s1 := sx_sv (d := 7) X
  have s2 := sx_beg (d := 8) H.1 0
  have s3 := fun g2 => sx_ca (d := 9) (h := g2) true
  have rC : tf_Rt 11 191 [.ref 240] h tf_z (ac_ca (nt_beg (ac_sv h) 0 n k 0) (bI true)) := fun Q q => en_X8_cold (by decide) (go_X8_cold_0 (by decide) (s1 _ (go_X8_cold_4 (by decide) (s2 _ (go_X8_cold_12 (by decide) (s3 _ _ (go_X8_cold_17 (by decide) q)))))))
  refine rC.sp ?_
  obtain ⟨HB, LB, B2⟩ := beg_ok H 0
  intro Q q
  refine en_X9_cold (by decide) (go_X9_cold_0 (by decide) ?_)
  show tf_Cd 298 10 _ _ (w1 (ac_ca (nt_beg (ac_sv h) 0 n k 0) 1) 270 0 0) _
  have c2 : ∀ e, 270 ≤ e → (nt_beg (ac_sv h) 0 n k 0).1 e = h.1 e := fun e he => by rw [LB e (by omega), C1.1 e he]
  obtain ⟨q1, eq1, qe, q5, q71, q74, -⟩ := q_beg I eu c2
  rw [← eq1]
  refine rx_kp (d := 9) hu q5 _ (fun v g3 p => go_X9_cold_10 (by decide) ?_)
  have r3 : g3.1 271 = h.1 271 := by rw [p.2.2.2.1 271 (by decide) (by decide), q71]
  have G3 := G.cong (RW.of r3)
  have N3 := N.rw (RW.of r3) n7 k14
  refine rx_bga (d := 7) (M := 8000 * (t + 1)) (by omega) G3.bi N3.1.nb N3.2.2 0 _ (fun v4 g4 p4 => go_X9_cold_15 (by decide) (q _ _ (I.dn hu eu (fun e h1 h2 => LB e (by omega)) c2 (fun e h1 _ => qe e h1) p (fun e h1 h2 h3 => p4.2.1 e h2) (by rw [p4.2.1 270 (by decide)]) (fun ix h1 h2 => p4.2.2.1 ix (by omega)) ⟨n, k, m, by omega, HB, p4.1, p4.2.2.2⟩)))
theorem run_m {f i : Nat} {ru : Int32} : ∀ (f i m : Nat) (h : LH), i ≤ (rt_run b n k ru f i m h).1 ∧ (rt_run b n k ru f i m h).1 ≤ i + f ∧ (nt_pick h b k ru = -1 → rt_run b n k ru f i m h = (i, h)) ∧ (0 < f → nt_pick h b k ru ≠ -1 → i < (rt_run b n k ru f i m h).1)
  | 0, i, m, h => ⟨Nat.le_refl _, Nat.le_refl _, fun _ => rfl, fun z => absurd z (by omega)⟩
  | f + 1, i, m, h => by
    rw [rt_run]
    by_cases c : nt_pick h b k ru = -1
    · rw [if_pos c]
      exact ⟨Nat.le_refl _, Nat.le_add_right _ _, fun _ => rfl, fun _ z => absurd c z⟩
    · rw [if_neg c]
      obtain ⟨h1, h2, -, -⟩ := run_m (f := f) (i := i) (ru := ru) f (i + 1) (m + 1) (rt_step h b n m (nt_pick h b k ru))
      exact ⟨by omega, by omega, fun z => absurd z c, fun _ _ => by omega⟩
theorem zz_4 (I : IZ h t) (ht : t ≤ 511) (x : Int32) : lk_eq h 185 [.ref 240, .int x] 55 [.ref 270, .int x] (fun g => NZ g (t + 1)) := by
  have X := I.2.1.1.1.1
  have out : rf_in x 1 60 = false → tf_Sp 11 55 [.ref 270, .int x] h (fun w g => w = .int (-1) ∧ NZ g (t + 1)) := by
    intro cx Q q
    refine en_X9_pivots (by decide) (go_X9_pivots_0 (by decide) ?_)
    refine sx_in (d := 9) _ _ _ _ (go_X9_pivots_12 (by decide) ⟨fun _ => q _ _ ⟨rfl, NZ.nn I.1 (fun e h1 _ => ?_) ?_⟩, fun c => absurd ?_ c⟩)
    · exact w1_ne (h := h) (c := 270) h1
    · exact w1_at (h := h) (c := 270) (by decide)
    · rw [bI_0]
      exact cx
  by_cases c1 : x < 1
  · have rC : tf_Rt 11 185 [.ref 240, .int x] h (.int (-1)) h := fun Q q => en_X8_pivots (by decide) (go_X8_pivots_0 (by decide) ⟨fun _ => go_X8_pivots_11 (by decide) q, fun z => absurd c1 z⟩)
    exact rC.sp ⟨_, rfl, out (by unfold rf_in; simp [c1])⟩
  by_cases c2 : x ≤ 60
  · have h0 : ¬ x < 0 := fun z => c1 (Int32.lt_iff_toInt_lt.mpr (by
      have := Int32.lt_iff_toInt_lt.mp z
      have e0 : (0 : Int32).toInt = 0 := by decide
      have e1 : (1 : Int32).toInt = 1 := by decide
      omega))
    obtain ⟨NN, hN, eN⟩ := nI_of h0
    subst eN
    have hN60 : NN ≤ 60 := (nI_leI (a := NN) (b := 60) hN (by omega)).mp c2
    have hN1 : 1 ≤ NN := by
      rcases Nat.lt_or_ge NN 1 with z | z
      · exact absurd (nI_lt (a := NN) (b := 1) z (by omega)) c1
      · exact z
    have inn : rf_in (nI NN) 1 60 = true := by
      unfold rf_in
      simp only [Bool.and_eq_true, Bool.not_eq_true', decide_eq_false_iff_not]
      exact ⟨c1, Int32.not_lt.mpr c2⟩
    obtain ⟨n, k, m, c, hm, H, R, G, N, e15, X1, C1⟩ := I.net ht
    obtain ⟨u, hu, eu⟩ := I.un
    have n7 := G.1.1.2.1
    have k14 := G.1.1.2.2
    have ru : (ac_sv h).1 0 2 = h.1 271 2 := N.1.1.2.2
    have s1 := sx_sv (d := 7) X
    have s2 := sx_run (d := 5) (M := NN) H (by omega) (by omega) R ((ac_sv h).1 0 2)
    obtain ⟨rm1, rm2, rm3, rm4⟩ := run_m (b := 0) (n := n) (k := k) (ru := (ac_sv h).1 0 2) (f := 0) (i := 0) NN 0 m (ac_sv h)
    obtain ⟨⟨m2, hm2, H2⟩, ⟨c2x, R2⟩, L2⟩ := rt_run_ok (rule := (ac_sv h).1 0 2) NN 0 m (ac_sv h) c H R
    have F2 := rt_run_fr (rule := (ac_sv h).1 0 2) NN 0 m (ac_sv h) c H R
    have E2 := rt_run_240 (rule := (ac_sv h).1 0 2) NN 0 m (ac_sv h) c H R
    by_cases c4 : nt_pick (ac_sv h) 0 k ((ac_sv h).1 0 2) = -1
    · rw [rm3 c4] at s2
      have s3 := sx_ca (d := 9) (h := ac_sv h) false
      rw [ac_ca_0] at s3
      have rC : tf_Rt 11 185 [.ref 240, .int (nI NN)] h (.int 0) (ac_sv h) := fun Q q => en_X8_pivots (by decide) (go_X8_pivots_0 (by decide) ⟨fun z => absurd z c1, fun _ => ⟨fun _ => go_X8_pivots_13 (by decide) (s1 _ (go_X8_pivots_17 (by decide) (s2 _ (go_X8_pivots_36 (by decide) ⟨fun _ => go_X8_pivots_46 (by decide) (go_X8_pivots_47 (by decide) (s3 _ (go_X8_pivots_50 (by decide) q))), fun z => absurd (show (0 : Int32) ≤ 0 by decide) z⟩)))), fun z => absurd c2 z⟩⟩)
      refine rC.sp ⟨0, rfl, ?_⟩
      intro Q q
      refine en_X9_pivots (by decide) (go_X9_pivots_0 (by decide) (sx_in (d := 9) _ _ _ _ (go_X9_pivots_12 (by decide) ⟨fun z => ?_, fun _ => go_X9_pivots_17 (by decide) ?_⟩)))
      · rw [inn] at z
        exact absurd z (by decide)
      show tf_Cd 298 10 _ _ (w1 (ac_sv h) 270 0 0) _
      have o : ∀ e, e ≠ 270 → (w1 (ac_sv h) 270 0 0).1 e = (ac_sv h).1 e := fun e he => w1_ne he
      have o5 : (w1 (ac_sv h) 270 0 0).1 270 5 = (ac_sv h).1 270 5 := w1_at (by decide)
      generalize w1 (ac_sv h) 270 0 0 = q1 at o o5
      have r1 : q1.1 271 = h.1 271 := by rw [o 271 (by decide), C1.1 271 (by decide)]
      have G1 : GI q1 n k (8000 * t) := G.cong (RW.of r1)
      have N1 : NR (ac_sv h) 0 q1 n k m := N.rw (RW.of r1) n7 k14
      have pk := N1.pick G1
      have S1 : RS (lt q1 n k) := by unfold RS; rw [lt_fl.r]; exact G1.2.2.1
      have none : rf_many (lt q1 n k) k 0 0 = 0 := by
        rw [many_0 k14, ← en_none (G1.lt).1 S1, ← pk, r1, ← ru]
        exact c4
      have F := lt_fl (h := q1) (n := n) (k := k)
      refine sx_best (d := 5) G1 _ (go_X9_pivots_21 (by decide) ⟨fun z => ?_, fun _ => q _ _ ⟨rfl, I.no (fun e h1 h2 => by rw [F.1 e (by omega), o e h1]) (by rw [F.1 270 (by decide), o5])⟩⟩)
      rw [bI_0] at z
      simp [none] at z
    · have c5 := rm4 (by omega) c4
      have rx := fun (r : LH) (N0 : NR (ac_sv h) 0 r n k m) (G0 : GI r n k (8000 * t)) (e0 : r.1 271 2 = (ac_sv h).1 0 2) => rx_pt (d := 3) (b := 0) (NN := NN) (by omega) (by omega) (by omega) N0 G0
      have rx2 : ∀ (r : LH), NR (ac_sv h) 0 r n k m → GI r n k (8000 * t) → r.1 271 2 = (ac_sv h).1 0 2 → tf_Sp (3 + 7) 50 [.ref 270, .int (nI NN)] r (fun v r2 => v = .int (nI (rt_run 0 n k ((ac_sv h).1 0 2) NN 0 m (ac_sv h)).1) ∧ NR (rt_run 0 n k ((ac_sv h).1 0 2) NN 0 m (ac_sv h)).2 0 r2 n k (m + (rt_run 0 n k ((ac_sv h).1 0 2) NN 0 m (ac_sv h)).1)) := fun r a1 a2 a3 => by
        have := rx r a1 a2 a3
        rw [a3] at this
        exact this
      clear rx
      generalize rt_run 0 n k ((ac_sv h).1 0 2) NN 0 m (ac_sv h) = P at s2 rm1 rm2 H2 R2 L2 F2 E2 c5 rx2
      have c6 : ¬ nI P.1 ≤ 0 := fun z => by
        have := (nI_leI (a := P.1) (b := 0) (by omega) (by omega)).mp z
        omega
      have s3 := sx_ca (d := 9) (h := P.2) true
      have rC : tf_Rt 11 185 [.ref 240, .int (nI NN)] h (.int (nI P.1)) (ac_ca P.2 (bI true)) := fun Q q => en_X8_pivots (by decide) (go_X8_pivots_0 (by decide) ⟨fun z => absurd z c1, fun _ => ⟨fun _ => go_X8_pivots_13 (by decide) (s1 _ (go_X8_pivots_17 (by decide) (s2 _ (go_X8_pivots_36 (by decide) ⟨fun z => absurd z c6, fun _ => go_X8_pivots_47 (by decide) (s3 _ (go_X8_pivots_50 (by decide) q))⟩)))), fun z => absurd c2 z⟩⟩)
      refine rC.sp ⟨_, rfl, ?_⟩
      intro Q q
      refine en_X9_pivots (by decide) (go_X9_pivots_0 (by decide) (sx_in (d := 9) _ _ _ _ (go_X9_pivots_12 (by decide) ⟨fun z => ?_, fun _ => go_X9_pivots_17 (by decide) ?_⟩)))
      · rw [inn] at z
        exact absurd z (by decide)
      show tf_Cd 298 10 _ _ (w1 (ac_ca P.2 1) 270 0 0) _
      have c2 : ∀ e, 270 ≤ e → P.2.1 e = h.1 e := fun e he => by rw [F2.1 e (by omega), C1.1 e he]
      obtain ⟨q1, eq1, qe, q5, q71, q74, q55⟩ := q_beg I eu c2
      rw [← eq1]
      have G1 : GI q1 n k (8000 * t) := G.cong (RW.of q71)
      have N1 : NR (ac_sv h) 0 q1 n k m := N.rw (RW.of q71) n7 k14
      have pk := N1.pick G1
      have S1 : RS (lt q1 n k) := by unfold RS; rw [lt_fl.r]; exact G1.2.2.1
      have some : ¬ rf_many (lt q1 n k) k 0 0 = 0 := by
        rw [many_0 k14, ← en_none (G1.lt).1 S1, ← pk, q71, ← ru]
        exact c4
      have F := lt_fl (h := q1) (n := n) (k := k)
      have l5 : (lt q1 n k).1 270 5 = nI u := by rw [F.1 270 (by decide), q5]
      refine sx_best (d := 5) G1 _ (go_X9_pivots_21 (by decide) ⟨fun _ => go_X9_pivots_26 (by decide) (rx_kp (d := 9) hu l5 _ (fun v g3 p => go_X9_pivots_31 (by decide) ?_)), fun z => absurd ?_ z⟩)
      · have r3 : g3.1 271 = h.1 271 := by rw [p.2.2.2.1 271 (by decide) (by decide), F.r, q71]
        have G3 := G.cong (RW.of r3)
        have N3 := N.rw (RW.of r3) n7 k14
        refine ((sp_pt (d := 3) (N := NN) (by omega) (by omega) G3).cj (rx2 g3 N3 G3 (by rw [r3, ru]))) _ (fun v4 g4 p4 => ?_)
        obtain ⟨⟨x, -, G4, P4⟩, ev, N4⟩ := p4
        subst ev
        have em : m2 = m + P.1 := (nI_eq (by omega) (by omega)).mp (H2.2.1.symm.trans N4.2.2.1.1)
        subst em
        refine go_X9_pivots_36 (by decide) (q _ g4 ⟨rfl, I.dn hu eu (q := lt q1 n k) (fun e h1 h2 => ?_) c2 (fun e h1 h2 => by rw [F.1 e (by omega), qe e h1]) p (fun e h1 h2 h3 => P4.1 e h2 (by omega) (by omega)) (P4.2.2.1 5 (by decide) (by decide)) (fun ix h1 h2 => P4.2.2.2 ix (Or.inr (Or.inr (Or.inr (Or.inl (by omega)))))) ⟨n, k, m + P.1, by omega, H2, G4.mono (by omega), N4⟩⟩)
        by_cases e240 : e = 240
        · rw [e240, E2]
        · exact L2 e (by omega) (by omega)
      · rw [bI_0]
        simp [some]
  · have rC : tf_Rt 11 185 [.ref 240, .int x] h (.int (-1)) h := fun Q q => en_X8_pivots (by decide) (go_X8_pivots_0 (by decide) ⟨fun z => absurd z c1, fun _ => ⟨fun z => absurd z c2, fun _ => go_X8_pivots_11 (by decide) q⟩⟩)
    exact rC.sp ⟨_, rfl, out (by unfold rf_in; simp [Int32.not_le.mp c2])⟩
end ROA
