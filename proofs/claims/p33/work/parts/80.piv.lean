/-! ===== pivots of the reference: that they return, and what they keep ===== -/
section R80
variable {h g : LH} {n k M d : Nat}
/-- method kn returns, and what it gives keeps P -/
def tf_Sp (d kn : Nat) (As : List Value) (h : LH) (P : Value → LH → Prop) : Prop := ∀ Q : tf_Q, (∀ v g, P v g → Q v g) → tf_Cd 298 d kn As h Q
theorem tf_Rt.sp {kn : Nat} {As : List Value} {v : Value} {P : Value → LH → Prop} (r : tf_Rt d kn As h v g) (p : P v g) : tf_Sp d kn As h P := fun Q q => r Q (q v g p)
theorem tf_Sp.mp {kn : Nat} {As : List Value} {P P2 : Value → LH → Prop} (r : tf_Sp d kn As h P) (p : ∀ v g, P v g → P2 v g) : tf_Sp d kn As h P2 := fun Q q => r Q (fun v g x => q v g (p v g x))
/-- what a pivot may change -/
def PF (h g : LH) : Prop := (∀ e, e ≠ 271 → ¬ (281 ≤ e ∧ e ≤ 286) → e ≠ 270 → g.1 e = h.1 e) ∧ g.2 = h.2 ∧ (∀ i, i ≠ 30 → i ≠ 31 → g.1 270 i = h.1 270 i) ∧ ∀ ix, KX ix → g.1 271 ix = h.1 271 ix
theorem PF.rf : PF h h := ⟨fun _ _ _ _ => rfl, rfl, fun _ _ _ => rfl, fun _ _ => rfl⟩
theorem PF.tr {f : LH} (x : PF h g) (y : PF g f) : PF h f := ⟨fun e h1 h2 h3 => (y.1 e h1 h2 h3).trans (x.1 e h1 h2 h3), y.2.1.trans x.2.1, fun i h1 h2 => (y.2.2.1 i h1 h2).trans (x.2.2.1 i h1 h2), fun ix h1 => (y.2.2.2 ix h1).trans (x.2.2.2 ix h1)⟩
theorem Fl.pf (F : Fl h g) : PF h g := ⟨fun e _ h2 _ => F.1 e (by omega), F.2, fun i _ _ => by rw [F.1 270 (by decide)], fun ix _ => by rw [F.r]⟩
theorem GI.lt (G : GI h n k M) : LT (lt h n k) n k := ⟨G.1.fl lt_fl.r, lt_ok G.1 G.2.1⟩
theorem GI.fl (G : GI h n k M) (F : Fl h g) : GI g n k M := G.cong (fun i _ => by rw [F.r])
theorem sp_turns (G : GI h n k M) (hM : M ≤ 20000000) : tf_Sp (d + 6) 49 [.ref 270] h (fun v g => ∃ x, v = .int x ∧ GI g n k (M + 1) ∧ PF h g) := by
  have F := lt_fl (h := h) (n := n) (k := k)
  have T := G.lt
  have G1 : GI (lt h n k) n k M := G.fl F
  rcases sx_turns (d := d) G.1 G.2.1 G.2.2.1 G.2.2.2.1 with s | ⟨a, x, y, m, ha, hx, hy, ho, ex, ey, hm, em, s⟩
  · exact s.sp ⟨_, rfl, G1.mono (by omega), F.pf⟩
  · have er : rr (lc (lt h n k) a x y) m = rlr (lc (lt h n k) a x y) (lc_n (lt h n k) x y) 0 1000000 := by
      have hc := (lc_ok T ha (show x ≤ n by omega) (show y ≤ n by omega)).1.2.1
      rcases lvx_or (g := lc (lt h n k) a x y) (dl := rlr (lc (lt h n k) a x y) (lc_n (lt h n k) x y) 0 1000000) (lc_n (lt h n k) x y) 0 (-1) with z | ⟨j, h1, h2, h3, h4⟩
      · exact absurd (em.symm.trans z) (nI_neg1 (by omega))
      · have : m = j := (nI_eq (by omega) (by omega)).mp (em.symm.trans h4)
        rw [this]
        exact h3
    obtain ⟨K1, K2, K3, K4, K5⟩ := tn_keep T G1.2.1 G1.2.2.2.1 G1.2.2.2.2.1 G1.2.2.2.2.2.1 G1.2.2.2.2.2.2 hM ha hx hy ho ex ey hm er
    refine s.sp ⟨_, rfl, K1, F.pf.tr ⟨fun e h1 h2 h3 => K3 e h1 (by omega) (by omega) h3, K4, K5, K2⟩⟩
theorem sp_ptL {N : Nat} (hN : N ≤ 10000) (hM : M ≤ 19000000) {Q : tf_Q} : ∀ (f m : Nat) (g : LH), m + f = N → GI g n k (M + m) → PF h g → (∀ v g, (∃ x, v = .int x ∧ GI g n k (M + N) ∧ PF h g) → Q v g) → lx_X9_pivotsTill 298 (tf_Cd 298 (d + 6)) Q 2 [.ref 270, .int (nI N), .int (nI m)] [] g
  | 0, m, g, hm, G, F, q => by
    have e : m = N := by omega
    refine go_X9_pivotsTill_2 (by decide) ⟨fun _ => go_X9_pivotsTill_21 (by decide) (q _ _ ⟨_, rfl, by rw [← e]; exact G, F⟩), fun z => absurd (nI_le (by omega) (by omega)) z⟩
  | f + 1, m, g, hm, G, F, q => by
    refine go_X9_pivotsTill_2 (by decide) ⟨fun z => absurd z (nI_ge (by omega) (by omega)), fun _ => sp_turns (d := d) G (by omega) _ (fun v g2 p => ?_)⟩
    obtain ⟨x, e, G2, F2⟩ := p
    subst e
    refine go_X9_pivotsTill_11 (by decide) ⟨fun _ => go_X9_pivotsTill_21 (by decide) (q _ _ ⟨_, rfl, G2.mono (by omega), F.tr F2⟩), fun _ => ?_⟩
    rw [nI_1]
    exact sp_ptL hN hM f (m + 1) g2 (by omega) G2 (F.tr F2) q
theorem sp_pt {N : Nat} (hN : N ≤ 10000) (hM : M ≤ 19000000) (G : GI h n k M) : tf_Sp (d + 7) 50 [.ref 270, .int (nI N)] h (fun v g => ∃ x, v = .int x ∧ GI g n k (M + N) ∧ PF h g) := fun Q q => en_X9_pivotsTill (by decide) (go_X9_pivotsTill_0 (by decide) (sp_ptL hN hM N 0 h (by omega) G PF.rf q))
theorem sx_best (G : GI h n k M) : tf_Rt (d + 5) 33 [.ref 270] h (.int (bI (decide (rf_many (lt h n k) k 0 0 = 0)))) (lt h n k) := by
  intro Q q
  refine en_X9_isBest (by decide) (go_X9_isBest_0 (by decide) (sx_lt (d := d + 1) G.1 _ (go_X9_isBest_4 (by decide) (sx_many (d := d) (G.1.fl lt_fl.r) _ (go_X9_isBest_8 (by decide) ⟨fun c => go_X9_isBest_16 (by decide) ⟨rfl, ?_⟩, fun c => go_X9_isBest_15 (by decide) (go_X9_isBest_16 (by decide) ⟨rfl, ?_⟩)⟩)))))
  · rw [decide_eq_true c] at q
    exact q
  · rw [decide_eq_false c] at q
    exact q
/-- a row of 170 numbers elsewhere, as if it stood in the grid's place -/
def sl (h : LH) (c o : Nat) : LH := (fun e i => if e = 271 then h.1 c (o + i) else h.1 e i, h.2)
theorem sl_at {c o i : Nat} : (sl h c o).1 271 i = h.1 c (o + i) := by simp [sl]
theorem GI.sl0 (G : GI h n k M) : GI (sl h 271 0) n k M := G.cong (fun i _ => by rw [sl_at, Nat.zero_add])
theorem GI.sl_to {c o : Nat} (G : GI (sl h c o) n k M) (e : ∀ i, i < 170 → g.1 271 i = h.1 c (o + i)) : GI g n k M := G.cong (fun i hi => by rw [sl_at]; exact e i hi)
theorem GI.sl_sl {c o c2 o2 : Nat} (G : GI (sl h c o) n k M) (e : ∀ i, i < 170 → g.1 c2 (o2 + i) = h.1 c (o + i)) : GI (sl g c2 o2) n k M := G.cong (fun i hi => by rw [sl_at, sl_at]; exact e i hi)
/-- rows kept for undo -/
def RU (h : LH) (M : Nat) : Prop := ∃ u, u ≤ 10 ∧ h.1 270 5 = nI u ∧ ∀ i, i < u → ∃ n k, GI (sl h 274 (170 * i)) n k M
theorem RU.mono {M2 : Nat} (U : RU h M) (hm : M ≤ M2) : RU h M2 := by
  obtain ⟨u, h1, h2, h3⟩ := U
  refine ⟨u, h1, h2, fun i hi => ?_⟩
  obtain ⟨n, k, G⟩ := h3 i hi
  exact ⟨n, k, G.mono hm⟩
theorem RU.same (U : RU h M) (e1 : g.1 270 5 = h.1 270 5) (e2 : g.1 274 = h.1 274) : RU g M := by
  obtain ⟨u, h1, h2, h3⟩ := U
  refine ⟨u, h1, by rw [e1]; exact h2, fun i hi => ?_⟩
  obtain ⟨n, k, G⟩ := h3 i hi
  exact ⟨n, k, G.sl_sl (fun i _ => by rw [e2])⟩
/-- of the reference only the rows for undo have changed -/
def Fu (h g : LH) : Prop := (∀ e, e ≠ 274 → e ≠ 270 → g.1 e = h.1 e) ∧ g.2 = h.2 ∧ ∀ i, i ≠ 5 → g.1 270 i = h.1 270 i
theorem sp_kpS {x1 : Int32} {Q : tf_Q} : ∀ (f x : Nat) (g : LH), x + f = 1530 → (∀ e, e ≠ 274 → g.1 e = h.1 e) → g.2 = h.2 → (∀ j, j < x → g.1 274 j = h.1 274 (j + 170)) → (∀ j, x ≤ j → g.1 274 j = h.1 274 j) → (∀ (g : LH) (x2 : Int32), (∀ e, e ≠ 274 → g.1 e = h.1 e) → g.2 = h.2 → (∀ j, j < 1530 → g.1 274 j = h.1 274 (j + 170)) → lx_X9_keeps 298 (tf_Cd 298 d) Q 40 [.ref 270, .int x1, .int x2] [] g) → lx_X9_keeps 298 (tf_Cd 298 d) Q 11 [.ref 270, .int x1, .int (nI x)] [] g
  | 0, x, g, hx, e1, e2, e3, e4, q => by
    have : x = 1530 := by omega
    subst this
    exact go_X9_keeps_11 (by decide) ⟨fun _ => q g _ e1 e2 e3, fun z => absurd (nI_le (a := 1530) (b := 1530) (by omega) (by omega)) z⟩
  | f + 1, x, g, hx, e1, e2, e3, e4, q => by
    refine go_X9_keeps_11 (by decide) ⟨fun z => absurd z (nI_ge (a := x) (b := 1530) (by omega) (by omega)), fun _ => ?_⟩
    have i1 : nI x + 170 = nI (x + 170) := nI_add x 170
    rw [i1, nI_clamp (by omega), nI_clamp (by omega), nI_1]
    refine ⟨vi_of (by omega) (by omega), vi_of (by omega) (by omega), sp_kpS f (x + 1) (w1 g 274 x (g.1 274 (x + 170))) (by omega) (fun e he => by rw [w1_ne he]; exact e1 e he) e2 (fun j hj => ?_) (fun j hj => ?_) q⟩
    · by_cases z : j = x
      · rw [z, w1_eq]
        exact e4 _ (by omega)
      · rw [w1_at z]
        exact e3 j (by omega)
    · rw [w1_at (by omega)]
      exact e4 j (by omega)
theorem sp_kpC {s u : Nat} (hs : s ≤ 4) (hu : u < 10) {Q : tf_Q} : ∀ (f x : Nat) (g : LH), x + f = 170 → h.1 270 5 = nI u → (∀ e, e ≠ 274 → g.1 e = h.1 e) → g.2 = h.2 → (∀ j, j < x → g.1 274 (170 * u + j) = h.1 271 (173 * s + j)) → (∀ j, j < 170 * u → g.1 274 j = h.1 274 j) → (∀ (g : LH) (x2 : Int32), (∀ e, e ≠ 274 → g.1 e = h.1 e) → g.2 = h.2 → (∀ j, j < 170 → g.1 274 (170 * u + j) = h.1 271 (173 * s + j)) → (∀ j, j < 170 * u → g.1 274 j = h.1 274 j) → lx_X9_keeps 298 (tf_Cd 298 d) Q 92 [.ref 270, .int (nI s), .int x2] [] g) → lx_X9_keeps 298 (tf_Cd 298 d) Q 52 [.ref 270, .int (nI s), .int (nI x)] [] g
  | 0, x, g, hx, eu, e1, e2, e3, e4, q => by
    have : x = 170 := by omega
    subst this
    exact go_X9_keeps_52 (by decide) ⟨fun _ => q g _ e1 e2 e3 e4, fun z => absurd (nI_le (a := 170) (b := 170) (by omega) (by omega)) z⟩
  | f + 1, x, g, hx, eu, e1, e2, e3, e4, q => by
    refine go_X9_keeps_52 (by decide) ⟨fun z => absurd z (nI_ge (a := x) (b := 170) (by omega) (by omega)), fun _ => ?_⟩
    have i1 : (173 : Int32) * nI s + nI x = nI (173 * s + x) := by rw [show (173 : Int32) = nI 173 from rfl, nI_mul, nI_add]
    have i2 : (170 : Int32) * g.1 270 5 + nI x = nI (170 * u + x) := by rw [e1 270 (by decide), eu, show (170 : Int32) = nI 170 from rfl, nI_mul, nI_add]
    rw [i1, i2, nI_clamp (by omega), nI_clamp (by omega), nI_1]
    refine ⟨vi_of (by omega) (by omega), vi_of (by omega) (by omega), sp_kpC hs hu f (x + 1) (w1 g 274 (170 * u + x) (g.1 271 (173 * s + x))) (by omega) eu (fun e he => by rw [w1_ne he]; exact e1 e he) e2 (fun j hj => ?_) (fun j hj => ?_) q⟩
    · by_cases z : j = x
      · rw [z, w1_eq, e1 271 (by decide)]
      · rw [w1_at (by omega)]
        exact e3 j (by omega)
    · rw [w1_at (by omega)]
      exact e4 j hj
theorem sp_keeps {s : Nat} (hs : s ≤ 4) (U : RU h M) (G : GI (sl h 271 (173 * s)) n k M) : tf_Sp (d + 1) 53 [.ref 270, .int (nI s)] h (fun _ g => RU g M ∧ Fu h g) := by
  intro Q q
  obtain ⟨u, hu, eu, ru⟩ := U
  have e50 : ∀ (u : Nat) (g : LH) (x2 : Value), u < 10 → (∀ e, e ≠ 274 → e ≠ 270 → g.1 e = h.1 e) → g.2 = h.2 → (∀ i, i ≠ 5 → g.1 270 i = h.1 270 i) → g.1 270 5 = nI u → (∀ i, i < u → ∃ n k, GI (sl g 274 (170 * i)) n k M) → lx_X9_keeps 298 (tf_Cd 298 d) Q 50 [.ref 270, .int (nI s), x2] [] g := by
    intro u g x2 hu f1 f2 f3 eu ru
    refine go_X9_keeps_50 (by decide) (sp_kpC (h := g) hs hu 170 0 g (by omega) eu (fun _ _ => rfl) rfl (fun j hj => absurd hj (by omega)) (fun _ _ => rfl) (fun g2 x2 a1 a2 a3 a4 => go_X9_keeps_92 (by decide) ?_))
    refine q _ _ ⟨⟨u + 1, by omega, ?_, fun i hi => ?_⟩, fun e h1 h2 => ?_, ?_, fun i hi => ?_⟩
    · show (w1 g2 270 5 (g2.1 270 5 + 1)).1 270 5 = _
      rw [w1_eq, a1 270 (by decide), eu, nI_1]
    · have w274 : (w1 g2 270 5 (g2.1 270 5 + 1)).1 274 = g2.1 274 := w1_ne (by decide)
      by_cases z : i = u
      · refine ⟨n, k, G.sl_sl (fun j hj => ?_)⟩
        show (w1 g2 270 5 (g2.1 270 5 + 1)).1 274 (170 * i + j) = _
        rw [w274, z, a3 j hj, f1 271 (by decide) (by decide)]
      · obtain ⟨n2, k2, G2⟩ := ru i (by omega)
        refine ⟨n2, k2, G2.sl_sl (fun j hj => ?_)⟩
        show (w1 g2 270 5 (g2.1 270 5 + 1)).1 274 (170 * i + j) = _
        rw [w274, a4 _ (by omega)]
    · show (w1 g2 270 5 (g2.1 270 5 + 1)).1 e = _
      rw [w1_ne h2, a1 e h1, f1 e h1 h2]
    · exact a2.trans f2
    · show (w1 g2 270 5 (g2.1 270 5 + 1)).1 270 i = _
      rw [w1_at hi, a1 270 (by decide), f3 i hi]
  refine en_X9_keeps (by decide) (go_X9_keeps_0 (by decide) ⟨fun c => ?_, fun c => ?_⟩)
  · have hu10 : u = 10 := (nI_eq (a := u) (b := 10) (by omega) (by omega)).mp (eu.symm.trans c)
    subst hu10
    refine sp_kpS (h := h) 1530 0 h (by omega) (fun _ _ => rfl) rfl (fun j hj => absurd hj (by omega)) (fun _ _ => rfl) (fun g x2 a1 a2 a3 => go_X9_keeps_40 (by decide) (e50 9 (w1 g 270 5 (g.1 270 5 - 1)) _ (by omega) (fun e h1 h2 => by rw [w1_ne h2]; exact a1 e h1) a2 (fun i hi => by rw [w1_at hi, a1 270 (by decide)]) ?_ (fun i hi => ?_)))
    · rw [w1_eq, a1 270 (by decide), eu]
      rfl
    · obtain ⟨n2, k2, G2⟩ := ru (i + 1) (by omega)
      refine ⟨n2, k2, G2.sl_sl (fun j hj => ?_)⟩
      rw [w1_ne (by decide), a3 _ (by omega), show 170 * i + j + 170 = 170 * (i + 1) + j by omega]
  · have hu10 : u ≠ 10 := fun z => c (by rw [eu, z]; rfl)
    exact e50 u h _ (by omega) (fun _ _ _ => rfl) rfl (fun _ _ => rfl) eu ru
end R80
