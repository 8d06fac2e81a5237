/-! ===== the reference between calls; its acts ===== -/
section R83
variable {h g : LH} {n k M d : Nat}
def SZ (h : LH) (o : Nat) : Prop := ∃ s, s ≤ 400 ∧ h.1 271 (o + 170) = nI s
def IM (h : LH) (M : Nat) : Prop := ∀ j, j < 3 → h.1 273 j ≠ 0 → (∃ n k, GI (sl h 271 (173 * (j + 1))) n k M) ∧ SZ h (173 * (j + 1))
def RD (h : LH) : Prop := ∀ i, i < 4 → vp_in (h.1 275 i) 100
def RI (h : LH) (M : Nat) : Prop := (∃ n k, GI h n k M) ∧ RU h M ∧ IM h M ∧ SZ h 0 ∧ RD h
/-- an ordinary call leaves these -/
def OF (h g : LH) : Prop := (∀ e, e < 270 → g.1 e = h.1 e) ∧ (∀ ix, 170 ≤ ix → ix < 692 → g.1 271 ix = h.1 271 ix) ∧ g.1 272 = h.1 272 ∧ g.1 273 = h.1 273 ∧ g.1 275 = h.1 275
theorem OF.rf : OF h h := ⟨fun _ _ => rfl, fun _ _ _ => rfl, rfl, rfl, rfl⟩
theorem OF.tr {f : LH} (x : OF h g) (y : OF g f) : OF h f := ⟨fun e he => (y.1 e he).trans (x.1 e he), fun i h1 h2 => (y.2.1 i h1 h2).trans (x.2.1 i h1 h2), y.2.2.1.trans x.2.2.1, y.2.2.2.1.trans x.2.2.2.1, y.2.2.2.2.trans x.2.2.2.2⟩
theorem PF.of (F : PF h g) : OF h g := ⟨fun e he => F.1 e (by omega) (by omega) (by omega), fun ix h1 _ => F.2.2.2 ix (Or.inr (Or.inr (Or.inr (Or.inl h1)))), F.1 272 (by decide) (by decide) (by decide), F.1 273 (by decide) (by decide) (by decide), F.1 275 (by decide) (by decide) (by decide)⟩
theorem Fl.of (F : Fl h g) : OF h g := F.pf.of
theorem Fu.of (F : Fu h g) : OF h g := ⟨fun e he => F.1 e (by omega) (by omega), fun ix _ _ => by rw [F.1 271 (by decide) (by decide)], F.1 272 (by decide) (by decide), F.1 273 (by decide) (by decide), F.1 275 (by decide) (by decide)⟩
theorem OF.w0 {i : Nat} {v : Int32} : OF h (w1 h 270 i v) := ⟨fun e he => w1_ne (by omega), fun ix _ _ => by rw [w1_ne (by decide)], w1_ne (by decide), w1_ne (by decide), w1_ne (by decide)⟩
theorem OF.wr {i : Nat} {v : Int32} (hi : i < 170) : OF h (w1 h 271 i v) := ⟨fun e he => w1_ne (by omega), fun ix h1 _ => w1_at (by omega), w1_ne (by decide), w1_ne (by decide), w1_ne (by decide)⟩
theorem OF.ws {c i : Nat} {v : Int32} (hc : 276 ≤ c) : OF h (w1 h c i v) := ⟨fun e he => w1_ne (by omega), fun ix _ _ => by rw [w1_ne (by omega)], w1_ne (by omega), w1_ne (by omega), w1_ne (by omega)⟩
theorem RI.of {N : Nat} (R : RI h M) (hM : M ≤ N) (F : OF h g) (G : ∃ n k, GI g n k N) (U : RU g N) : RI g N := by
  refine ⟨G, U, fun j hj hs => ?_, ?_, fun i hi => by rw [F.2.2.2.2]; exact R.2.2.2.2 i hi⟩
  · rw [F.2.2.2.1] at hs
    obtain ⟨⟨n, k, G2⟩, s, h1, h2⟩ := R.2.2.1 j hj hs
    exact ⟨⟨n, k, (G2.mono hM).sl_sl (fun i hi => F.2.1 _ (by omega) (by omega))⟩, s, h1, by rw [F.2.1 _ (by omega) (by omega)]; exact h2⟩
  · obtain ⟨s, h1, h2⟩ := R.2.2.2.1
    exact ⟨s, h1, by rw [F.2.1 _ (by omega) (by omega)]; exact h2⟩
theorem GI.w {c i : Nat} {v : Int32} (G : GI h n k M) (hc : c ≠ 271) : GI (w1 h c i v) n k M := G.cong (fun j _ => by rw [w1_ne (fun z => hc z.symm)])
theorem RU.w {c i : Nat} {v : Int32} (U : RU h M) (h1 : c ≠ 274) (h2 : c ≠ 270 ∨ i ≠ 5) : RU (w1 h c i v) M := U.same (by
  by_cases e : c = 270
  · subst e
    exact w1_at (fun z => (h2.resolve_left (fun y => y rfl)) z.symm)
  · rw [w1_ne (fun z => e z.symm)]) (w1_ne (fun z => h1 z.symm))
theorem RI.w0 {i : Nat} {v : Int32} (R : RI h M) (hi : i ≠ 5) : RI (w1 h 270 i v) M := by
  obtain ⟨n, k, G⟩ := R.1
  exact R.of (Nat.le_refl _) OF.w0 ⟨n, k, G.w (by decide)⟩ (R.2.1.w (by decide) (Or.inr hi))
theorem RI.ws {c i : Nat} {v : Int32} (R : RI h M) (hc : 276 ≤ c) : RI (w1 h c i v) M := by
  obtain ⟨n, k, G⟩ := R.1
  exact R.of (Nat.le_refl _) (OF.ws hc) ⟨n, k, G.w (by omega)⟩ (R.2.1.w (by omega) (Or.inl (by omega)))
theorem RI.mono {N : Nat} (R : RI h M) (hM : M ≤ N) : RI h N := by
  obtain ⟨n, k, G⟩ := R.1
  exact R.of hM OF.rf ⟨n, k, G.mono hM⟩ (R.2.1.mono hM)
theorem RI.fl (R : RI h M) (F : Fl h g) : RI g M := by
  obtain ⟨n, k, G⟩ := R.1
  exact R.of (Nat.le_refl _) F.of ⟨n, k, G.fl F⟩ (R.2.1.same (by rw [F.1 270 (by decide)]) (F.1 274 (by decide)))
theorem RI.pf {N : Nat} (R : RI h M) (hM : M ≤ N) (F : PF h g) (G : GI g n k N) : RI g N := R.of hM F.of ⟨n, k, G⟩ ((R.2.1.mono hM).same (F.2.2.1 5 (by decide) (by decide)) (F.1 274 (by decide) (by decide) (by decide)))
/-- an ordinary call of the reference -/
def RQ (kn : Nat) (As : List Value) (h : LH) (N : Nat) : Prop := tf_Sp 11 kn (.ref 270 :: As) h (fun v g => (∃ x, v = .int x) ∧ RI g N ∧ OF h g)
theorem rq_rt {kn N : Nat} {As : List Value} {x : Int32} (r : tf_Rt 11 kn (.ref 270 :: As) h (.int x) g) (R : RI g N) (F : OF h g) : RQ kn As h N := r.sp ⟨⟨x, rfl⟩, R, F⟩
theorem sp_kp0 (G : GI h n k M) (U : RU h M) : tf_Sp (d + 1) 53 [.ref 270, .int 0] h (fun _ g => GI g n k M ∧ RU g M ∧ Fu h g) := (sp_keeps (s := 0) (by omega) U G.sl0).mp (fun _ _ p => ⟨G.cong (fun i _ => by rw [p.2.1 271 (by decide) (by decide)]), p.1, p.2⟩)
theorem rq_pivot (R : RI h M) (hM : M ≤ 18000000) : RQ 54 [] h (M + 1) := by
  intro Q q
  have R1 := R.w0 (i := 0) (v := 0) (by decide)
  have F0 := OF.w0 (h := h) (i := 0) (v := 0)
  refine en_X9_pivot (by decide) (go_X9_pivot_0 (by decide) ?_)
  show tf_Cd 298 10 _ _ (w1 h 270 0 0) _
  generalize w1 h 270 0 0 = h1 at *
  obtain ⟨n, k, G⟩ := R1.1
  have Fl1 := lt_fl (h := h1) (n := n) (k := k)
  have R2 := R1.fl Fl1
  have G2 : GI (lt h1 n k) n k M := G.fl Fl1
  refine sx_best (d := 5) G _ (go_X9_pivot_9 (by decide) ⟨fun _ => go_X9_pivot_14 (by decide) (sp_kp0 (d := 9) G2 R2.2.1 _ (fun v g3 p => go_X9_pivot_19 (by decide) (sp_turns (d := 4) p.1 (by omega) _ (fun v4 g4 p4 => ?_)))), fun _ => q _ _ ⟨⟨_, rfl⟩, R2.mono (by omega), F0.tr Fl1.of⟩⟩)
  obtain ⟨x, e, G4, F4⟩ := p4
  subst e
  have R3 : RI g3 M := R2.of (Nat.le_refl _) p.2.2.of ⟨n, k, p.1⟩ p.2.1
  exact go_X9_pivot_23 (by decide) (q _ _ ⟨⟨_, rfl⟩, R3.pf (by omega) F4 G4, ((F0.tr Fl1.of).tr p.2.2.of).tr F4.of⟩)
theorem rf_in_t {x : Int32} {l u : Nat} (hu : u < 2 ^ 31) (c : rf_in x (nI l) (nI u) = true) (hl : l ≤ u) : ∃ j, l ≤ j ∧ j ≤ u ∧ x = nI j := by
  unfold rf_in at c
  simp only [Bool.and_eq_true, Bool.not_eq_true', decide_eq_false_iff_not] at c
  have h0 : ¬ x < 0 := by
    intro z
    apply c.1
    rw [Int32.lt_iff_toInt_lt] at z ⊢
    rw [nI_toInt (by omega)]
    have : (0 : Int32).toInt = 0 := rfl
    omega
  obtain ⟨j, hj, e⟩ := nI_of h0
  subst e
  refine ⟨j, ?_, ?_, rfl⟩
  · rcases Nat.lt_or_ge j l with z | z
    · exact absurd (nI_lt z (by omega)) c.1
    · exact z
  · rcases Nat.lt_or_ge u j with z | z
    · exact absurd (nI_lt z (by omega)) c.2
    · exact z
theorem rq_pivots (R : RI h M) (hM : M ≤ 18000000) (x1 : Int32) : RQ 55 [.int x1] h (M + 60) := by
  intro Q q
  have R1 := R.w0 (i := 0) (v := 0) (by decide)
  have F0 := OF.w0 (h := h) (i := 0) (v := 0)
  refine en_X9_pivots (by decide) (go_X9_pivots_0 (by decide) ?_)
  show tf_Cd 298 10 _ _ (w1 h 270 0 0) _
  generalize w1 h 270 0 0 = h1 at *
  refine sx_in (d := 9) _ _ _ _ (go_X9_pivots_12 (by decide) ⟨fun _ => q _ _ ⟨⟨_, rfl⟩, R1.mono (by omega), F0⟩, fun c => go_X9_pivots_17 (by decide) ?_⟩)
  rw [bI_0, Bool.not_eq_false] at c
  obtain ⟨N, hN1, hN2, eN⟩ := rf_in_t (l := 1) (u := 60) (by omega) c (by omega)
  subst eN
  obtain ⟨n, k, G⟩ := R1.1
  have Fl1 := lt_fl (h := h1) (n := n) (k := k)
  have R2 := R1.fl Fl1
  have G2 : GI (lt h1 n k) n k M := G.fl Fl1
  refine sx_best (d := 5) G _ (go_X9_pivots_21 (by decide) ⟨fun _ => go_X9_pivots_26 (by decide) (sp_kp0 (d := 9) G2 R2.2.1 _ (fun v g3 p => go_X9_pivots_31 (by decide) (sp_pt (d := 3) (N := N) (by omega) (by omega) p.1 _ (fun v4 g4 p4 => ?_)))), fun _ => q _ _ ⟨⟨_, rfl⟩, R2.mono (by omega), F0.tr Fl1.of⟩⟩)
  obtain ⟨x, e, G4, F4⟩ := p4
  subst e
  have R3 : RI g3 M := R2.of (Nat.le_refl _) p.2.2.of ⟨n, k, p.1⟩ p.2.1
  exact go_X9_pivots_36 (by decide) (q _ _ ⟨⟨_, rfl⟩, R3.pf (by omega) F4 (G4.mono (by omega)), ((F0.tr Fl1.of).tr p.2.2.of).tr F4.of⟩)
theorem GI.ru {v : Int32} (G : GI h n k M) : GI (w1 h 271 2 v) n k M := by
  obtain ⟨R, C, S, FB1, ⟨A1, A2, A3, A4⟩, D, N⟩ := G
  have hn := R.1
  have e : ∀ i, i ≠ 2 → (w1 h 271 2 v).1 271 i = h.1 271 i := fun i hi => w1_at hi
  generalize w1 h 271 2 v = g2 at *
  have er : ∀ a w, rm g2 a w = rm h a w := fun a w => e _ (by omega)
  exact ⟨⟨R.1, by rw [e 0 (by omega)]; exact R.2.1, by rw [e 1 (by omega)]; exact R.2.2.1, fun a ha => by rw [er, er]; exact R.2.2.2 a ha⟩, C.hang (fun b _ => ⟨er b 0, er b 1⟩) (fun b _ hh => by unfold rf_hangs at hh ⊢; rw [er]; exact hh) (fun p _ hl => by rw [e _ (by omega)]; exact hl), by unfold RS; rw [e 6 (by omega)]; exact S, fun a ha => by rw [er, er, er]; exact FB1 a ha, ⟨fun a ha => by rw [er, er]; exact A1 a ha, fun a ha => by rw [er, er]; exact A2 a ha, fun a ha => by rw [er]; exact A3 a ha, fun p hp => by rw [e _ (by omega)]; exact A4 p hp⟩, fun p hp => by rw [e (65 + p) (by omega), e (58 + p) (by omega)]; exact D p hp, by unfold GN; rw [e 7 (by omega)]; exact N⟩
/-- rule's answer is told exactly: p7 compares it -/
theorem rq_rule (R : RI h M) (x1 : Int32) : tf_Sp 11 56 [.ref 270, .int x1] h (fun v g => v = .int (bI (rf_in x1 0 2)) ∧ RI g M ∧ OF h g) := by
  intro Q q
  have R1 := R.w0 (i := 0) (v := 0) (by decide)
  have F0 := OF.w0 (h := h) (i := 0) (v := 0)
  refine en_X9_rule (by decide) (go_X9_rule_0 (by decide) ?_)
  show tf_Cd 298 10 _ _ (w1 h 270 0 0) _
  generalize w1 h 270 0 0 = h1 at *
  refine sx_in (d := 9) _ _ _ _ (go_X9_rule_11 (by decide) ⟨fun c => ?_, fun c => go_X9_rule_16 (by decide) ?_⟩)
  · rw [bI_0] at c
    exact q _ _ ⟨by rw [c]; rfl, R1, F0⟩
  · rw [bI_0, Bool.not_eq_false] at c
    obtain ⟨n, k, G⟩ := R1.1
    refine sp_kp0 (d := 9) G R1.2.1 _ (fun v g3 p => go_X9_rule_21 (by decide) (q _ _ ⟨by rw [c]; rfl, ?_, (F0.tr p.2.2.of).tr (OF.wr (i := 2) (by omega))⟩))
    have R3 : RI g3 M := R1.of (Nat.le_refl _) p.2.2.of ⟨n, k, p.1⟩ p.2.1
    exact R3.of (Nat.le_refl _) (OF.wr (i := 2) (by omega)) ⟨n, k, p.1.ru⟩ (p.2.1.w (by decide) (Or.inl (by decide)))
theorem BX.of (F1 : ∀ e, e ≠ 271 → g.1 e = h.1 e) (F2 : ∀ ix, BX ix → ix ≠ 5 → g.1 271 ix = h.1 271 ix) : OF h g := ⟨fun e he => F1 e (by omega), fun ix h1 _ => F2 ix (Or.inr (Or.inl h1)) (by omega), F1 272 (by decide), F1 273 (by decide), F1 275 (by decide)⟩
theorem rq_cold (R : RI h M) : tf_Sp 11 66 [.ref 270] h (fun v g => v = tf_z ∧ RI g M ∧ OF h g) := by
  intro Q q
  have R1 := R.w0 (i := 0) (v := 0) (by decide)
  have F0 := OF.w0 (h := h) (i := 0) (v := 0)
  refine en_X9_cold (by decide) (go_X9_cold_0 (by decide) ?_)
  show tf_Cd 298 10 _ _ (w1 h 270 0 0) _
  generalize w1 h 270 0 0 = h1 at *
  obtain ⟨n, k, G⟩ := R1.1
  refine sp_kp0 (d := 9) G R1.2.1 _ (fun v g3 p => go_X9_cold_10 (by decide) (sp_bga (d := 7) (M := M) p.1.bi 0 _ (fun v4 g4 p4 => go_X9_cold_15 (by decide) (q _ _ ?_))))
  have R3 : RI g3 M := R1.of (Nat.le_refl _) p.2.2.of ⟨n, k, p.1⟩ p.2.1
  have F4 : OF g3 g4 := BX.of p4.2.1 p4.2.2.2
  exact ⟨rfl, R3.of (Nat.le_refl _) F4 ⟨n, k, p4.1⟩ (p.2.1.same (by rw [p4.2.1 270 (by decide)]) (p4.2.1 274 (by decide))), (F0.tr p.2.2.of).tr F4⟩
end R83
