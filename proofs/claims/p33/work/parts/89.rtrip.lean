/-! ===== the reference: trips ===== -/
section R89
variable {h g : LH} {n k M d : Nat}
def LN (g : LH) (k : Nat) : Prop := ∀ a, a < k → ∃ v, v ≤ 99 ∧ g.1 288 a = nI v
def sq (g : LH) : Nat → Nat
  | 0 => 0
  | a + 1 => sq g a + (g.1 288 a).toNatClampNeg
def PO (g : LH) (k : Nat) (p : Int32) : Prop := ∃ a, a < k ∧ rm g a 0 = p ∧ ¬ g.1 288 a ≤ 0
def oof (g : LH) (p : Int32) : Nat → Nat → Int32
  | 0, _ => -1
  | f + 1, a => if rm g a 0 = p then (if g.1 288 a ≤ 0 then oof g p f (a + 1) else nI a) else oof g p f (a + 1)
theorem oof_or (p : Int32) : ∀ (f a : Nat), (oof g p f a = -1 ∧ ∀ b, a ≤ b → b < a + f → rm g b 0 = p → g.1 288 b ≤ 0) ∨ ∃ b, a ≤ b ∧ b < a + f ∧ oof g p f a = nI b ∧ rm g b 0 = p ∧ ¬ g.1 288 b ≤ 0
  | 0, a => Or.inl ⟨rfl, fun b h1 h2 => absurd h2 (by omega)⟩
  | f + 1, a => by
    rw [oof]
    have step : (rm g a 0 = p → g.1 288 a ≤ 0) → (oof g p f (a + 1) = -1 ∧ ∀ b, a ≤ b → b < a + (f + 1) → rm g b 0 = p → g.1 288 b ≤ 0) ∨ ∃ b, a ≤ b ∧ b < a + (f + 1) ∧ oof g p f (a + 1) = nI b ∧ rm g b 0 = p ∧ ¬ g.1 288 b ≤ 0 := by
      intro hz
      rcases oof_or p f (a + 1) with ⟨h1, h2⟩ | ⟨b, h1, h2, h3⟩
      · refine Or.inl ⟨h1, fun b h3 h4 h5 => ?_⟩
        by_cases e : b = a
        · rw [e] at h5 ⊢
          exact hz h5
        · exact h2 b (by omega) (by omega) h5
      · exact Or.inr ⟨b, by omega, by omega, h3⟩
    by_cases c : rm g a 0 = p
    · rw [if_pos c]
      by_cases c2 : g.1 288 a ≤ 0
      · rw [if_pos c2]
        exact step (fun _ => c2)
      · rw [if_neg c2]
        exact Or.inr ⟨a, Nat.le_refl _, by omega, rfl, c, c2⟩
    · rw [if_neg c]
      exact step (fun z => absurd z c)
theorem sx_oofL (H : RM g n k) {x1 : Int32} {Q : tf_Q} : ∀ (f a : Nat), a + f = k → Q (.int (oof g x1 f a)) g → lx_X9_outOf 298 (tf_Cd 298 (d + 1)) Q 2 [.ref 270, .int x1, .int (nI a)] [] g
  | 0, a, ha, q => by
    have hn := H.1
    exact go_X9_outOf_2 (by decide) ⟨fun _ => go_X9_outOf_39 (by decide) q, fun z => absurd (H.k2 (by omega) (by omega)) z⟩
  | f + 1, a, ha, q => by
    have hn := H.1
    rw [oof] at q
    have nx : Q (.int (oof g x1 f (a + 1))) g → lx_X9_outOf 298 (tf_Cd 298 (d + 1)) Q 33 [.ref 270, .int x1, .int (nI a)] [] g := fun q2 => go_X9_outOf_33 (by decide) (by rw [nI_1]; exact sx_oofL H f (a + 1) (by omega) q2)
    refine go_X9_outOf_2 (by decide) ⟨fun z => absurd z (H.k1 (by omega)), fun _ => sx_of (d := d) a 0 rfl rfl (by omega) (by omega) _ (go_X9_outOf_18 (by decide) ⟨fun c => ⟨vi_of (by omega) (by omega), ?_⟩, fun c => nx (by rw [if_neg c] at q; exact q)⟩)⟩
    rw [nI_clamp (by omega)]
    rw [if_pos c] at q
    exact ⟨fun c2 => nx (by rw [if_pos c2] at q; exact q), fun c2 => by rw [if_neg c2] at q; exact q⟩
theorem sx_oof (H : RM g n k) (x1 : Int32) : tf_Rt (d + 2) 87 [.ref 270, .int x1] g (.int (oof g x1 k 0)) g := fun Q q => en_X9_outOf (by decide) (go_X9_outOf_0 (by decide) (sx_oofL H k 0 (by omega) q))
theorem oof_po {p : Int32} : (oof g p k 0 = -1 ∧ ¬ PO g k p) ∨ ∃ b, b < k ∧ oof g p k 0 = nI b ∧ rm g b 0 = p ∧ ¬ g.1 288 b ≤ 0 := by
  rcases oof_or (g := g) p k 0 with ⟨h1, h2⟩ | ⟨b, h1, h2, h3⟩
  · exact Or.inl ⟨h1, fun ⟨a, ha, e1, e2⟩ => e2 (h2 a (by omega) (by omega) e1)⟩
  · exact Or.inr ⟨b, by omega, h3⟩
theorem rst_1 (H : RM g n k) {x1 : Int32} {p : Nat} {Q : tf_Q} (q : ∀ x3 x4 : Int32, lx_X9_startOf 298 (tf_Cd 298 (d + 1)) Q 83 [.ref 270, .int x1, .int (nI p), .int x3, .int x4] [] g) : ∀ (f a : Nat) (s : Int32), a + f = k → lx_X9_startOf 298 (tf_Cd 298 (d + 1)) Q 19 [.ref 270, .int x1, .int (nI p), .int s, .int (nI a)] [] g
  | 0, a, s, ha => by
    have hn := H.1
    exact go_X9_startOf_19 (by decide) ⟨fun _ => q _ _, fun z => absurd (H.k2 (by omega) (by omega)) z⟩
  | f + 1, a, s, ha => by
    have hn := H.1
    have v14 : vp_in (nI a) 14 := vi_of (by omega) (by omega)
    have e75 : ∀ y : Int32, lx_X9_startOf 298 (tf_Cd 298 (d + 1)) Q 75 [.ref 270, .int x1, .int (nI p), .int s, .int (nI a)] [.int y, .int s] g := fun y => go_X9_startOf_75 (by decide) (by rw [nI_1]; exact rst_1 H q f (a + 1) _ (by omega))
    exact go_X9_startOf_19 (by decide) ⟨fun z => absurd z (H.k1 (by omega)), fun _ => sx_of (d := d) a 0 rfl rfl (by omega) (by omega) _ (go_X9_startOf_38 (by decide) ⟨fun _ => ⟨v14, e75 _⟩, fun _ => go_X9_startOf_52 (by decide) (sx_of (d := d) a 1 rfl rfl (by omega) (by omega) _ (go_X9_startOf_59 (by decide) ⟨fun _ => ⟨v14, e75 _⟩, fun _ => go_X9_startOf_74 (by decide) (e75 _)⟩))⟩)⟩
theorem neg_add_nI {t v : Nat} : -nI t + -nI v = -nI (t + v) := by rw [← nI_add, Int32.neg_add, Int32.sub_eq_add_neg]
theorem rst_2 (H : RM g n k) (L : LN g k) {x1 : Int32} {p : Nat} (no : ¬ PO g k (nI p)) {Q : tf_Q} (q : ∀ (t : Nat) (x4 : Int32), t ≤ 2000 → lx_X9_startOf 298 (tf_Cd 298 (d + 1)) Q 83 [.ref 270, .int x1, .int (nI p), .int (-nI t), .int x4] [] g) : ∀ (f a t : Nat), a + f = k → t ≤ 99 * a → lx_X9_startOf 298 (tf_Cd 298 (d + 1)) Q 19 [.ref 270, .int x1, .int (nI p), .int (-nI t), .int (nI a)] [] g
  | 0, a, t, ha, ht => by
    have hn := H.1
    exact go_X9_startOf_19 (by decide) ⟨fun _ => q _ _ (by omega), fun z => absurd (H.k2 (by omega) (by omega)) z⟩
  | f + 1, a, t, ha, ht => by
    have hn := H.1
    have v14 : vp_in (nI a) 14 := vi_of (by omega) (by omega)
    have ca : (nI a).toNatClampNeg = a := nI_clamp (by omega)
    obtain ⟨v, hv, ev⟩ := L a (by omega)
    have e75 : ∀ (y : Int32) (v2 : Nat), v2 ≤ 99 → y = -nI v2 → lx_X9_startOf 298 (tf_Cd 298 (d + 1)) Q 75 [.ref 270, .int x1, .int (nI p), .int (-nI t), .int (nI a)] [.int y, .int (-nI t)] g := fun y v2 hv2 ey => go_X9_startOf_75 (by decide) (by rw [nI_1, ey, neg_add_nI]; exact rst_2 H L no q f (a + 1) _ (by omega) (by omega))
    refine go_X9_startOf_19 (by decide) ⟨fun z => absurd z (H.k1 (by omega)), fun _ => sx_of (d := d) a 0 rfl rfl (by omega) (by omega) _ (go_X9_startOf_38 (by decide) ⟨fun c => ⟨v14, e75 _ 0 (by omega) ?_⟩, fun _ => go_X9_startOf_52 (by decide) (sx_of (d := d) a 1 rfl rfl (by omega) (by omega) _ (go_X9_startOf_59 (by decide) ⟨fun _ => ⟨v14, e75 _ v hv ?_⟩, fun _ => go_X9_startOf_74 (by decide) (e75 _ 0 (by omega) rfl)⟩))⟩)⟩
    · rw [ca]
      have h0 : g.1 288 a ≤ 0 := Classical.byContradiction fun z => no ⟨a, by omega, c, z⟩
      rw [ev] at h0 ⊢
      have : v = 0 := by
        rcases Nat.eq_zero_or_pos v with y | y
        · exact y
        · exact absurd h0 (nI_nle y (by omega))
      rw [this]
      rfl
    · rw [ca, ev]
theorem rst_L (H : RM g n k) (L : LN g k) {Q : tf_Q} (q : ∀ v, (v = .int (-1) ∨ ∃ p, p < n ∧ v = .int (nI p) ∧ PO g k (nI p)) → Q v g) : ∀ (f p : Nat) (x1 : Int32) (x3 x4 : Value), p + f = n → (x1 = -1 ∨ ∃ p, p < n ∧ x1 = nI p ∧ PO g k (nI p)) → lx_X9_startOf 298 (tf_Cd 298 (d + 2)) Q 4 [.ref 270, .int x1, .int (nI p), x3, x4] [] g
  | 0, p, x1, x3, x4, hp, hx => by
    have hn := H.1
    refine go_X9_startOf_4 (by decide) ⟨fun _ => go_X9_startOf_115 (by decide) (q _ ?_), fun z => absurd (H.n2 (by omega) (by omega)) z⟩
    rcases hx with e | ⟨o, ho, e, w⟩
    · exact Or.inl (by rw [e])
    · exact Or.inr ⟨o, ho, by rw [e], w⟩
  | f + 1, p, x1, x3, x4, hp, hx => by
    have hn := H.1
    have e108 : ∀ y x3 x4 : Int32, (y = -1 ∨ ∃ p, p < n ∧ y = nI p ∧ PO g k (nI p)) → lx_X9_startOf 298 (tf_Cd 298 (d + 2)) Q 108 [.ref 270, .int x1, .int (nI p), .int x3, .int x4] [.int y] g := fun y x3 x4 hy => go_X9_startOf_108 (by decide) (by rw [nI_1]; exact rst_L H L q f (p + 1) y _ _ (by omega) hy)
    have e89 : ∀ x3 x4 : Int32, lx_X9_startOf 298 (tf_Cd 298 (d + 2)) Q 89 [.ref 270, .int x1, .int (nI p), .int x3, .int x4] [] g := by
      intro x3 x4
      refine go_X9_startOf_89 (by decide) ⟨fun _ => sx_oof (d := d) H (nI p) _ (go_X9_startOf_99 (by decide) ⟨fun _ => go_X9_startOf_107 (by decide) (e108 _ _ _ hx), fun c => e108 _ _ _ ?_⟩), fun _ => go_X9_startOf_107 (by decide) (e108 _ _ _ hx)⟩
      rcases oof_po (g := g) (k := k) (p := nI p) with ⟨e, -⟩ | ⟨b, hb, -, w1, w2⟩
      · exact absurd e c
      · exact Or.inr ⟨p, by omega, rfl, b, hb, w1, w2⟩
    refine go_X9_startOf_4 (by decide) ⟨fun z => absurd z (H.n1 (by omega)), fun _ => ?_⟩
    by_cases po : PO g k (nI p)
    · exact rst_1 (d := d + 1) H (fun x3 x4 => go_X9_startOf_83 (by decide) ⟨fun _ => e89 _ _, fun _ => q _ (Or.inr ⟨p, by omega, rfl, po⟩)⟩) k 0 _ (by omega)
    · refine rst_2 (d := d + 1) H L po (fun t x4 ht => go_X9_startOf_83 (by decide) ⟨fun _ => e89 _ _, fun z => absurd ?_ z⟩) k 0 0 (by omega) (by omega)
      have := (sb_nle (a := t) (b := 0) (by omega) (by omega)).mpr (by omega)
      exact this
theorem sp_st (H : RM g n k) (L : LN g k) : tf_Sp (d + 3) 88 [.ref 270] g (fun v g2 => g2 = g ∧ (v = .int (-1) ∨ ∃ p, p < n ∧ v = .int (nI p) ∧ PO g k (nI p))) := fun Q q => en_X9_startOf (by decide) (go_X9_startOf_0 (by decide) (rst_L H L (fun v hv => q v g ⟨rfl, hv⟩) n 0 _ _ _ (by omega) (Or.inl rfl)))
theorem sp_saL {x1 : Int32} {m : Nat} (hm : m ≤ 9) {Q : tf_Q} (q : ∀ v, ((v = .int (-1) ∧ ∀ i, i < m → g.1 290 i ≠ x1) ∨ ∃ j, j < m ∧ v = .int (nI j)) → Q v g) : ∀ (f i : Nat), i + f = m → (∀ j, j < i → g.1 290 j ≠ x1) → lx_X9_stopAt 298 (tf_Cd 298 d) Q 2 [.ref 270, .int x1, .int (nI m), .int (nI i)] [] g
  | 0, i, hi, no => go_X9_stopAt_2 (by decide) ⟨fun _ => go_X9_stopAt_25 (by decide) (q _ (Or.inl ⟨rfl, fun j hj => no j (by omega)⟩)), fun z => absurd (nI_le (by omega) (by omega)) z⟩
  | f + 1, i, hi, no => by
    refine go_X9_stopAt_2 (by decide) ⟨fun z => absurd z (nI_ge (by omega) (by omega)), fun _ => ⟨vi_of (by omega) (by omega), ?_⟩⟩
    rw [nI_clamp (by omega)]
    refine ⟨fun _ => q _ (Or.inr ⟨i, by omega, rfl⟩), fun c => go_X9_stopAt_19 (by decide) ?_⟩
    rw [nI_1]
    refine sp_saL hm q f (i + 1) (by omega) (fun j hj => ?_)
    by_cases e : j = i
    · rw [e]
      exact c
    · exact no j (by omega)
theorem sp_sa {x1 : Int32} {m : Nat} (hm : m ≤ 9) : tf_Sp (d + 1) 89 [.ref 270, .int x1, .int (nI m)] g (fun v g2 => g2 = g ∧ ((v = .int (-1) ∧ ∀ i, i < m → g.1 290 i ≠ x1) ∨ ∃ j, j < m ∧ v = .int (nI j))) := fun Q q => en_X9_stopAt (by decide) (go_X9_stopAt_0 (by decide) (sp_saL hm (fun v hv => q v g ⟨rfl, hv⟩) m 0 (by omega) (fun j hj => absurd hj (by omega))))
/-- m trips' steps gone, at a point from which one can go on -/
def TG (g : LH) (n k m p : Nat) (V : Nat → Bool) : Prop := p < n ∧ g.1 290 m = nI p ∧ cv V n = m + 1 ∧ (∀ o, V o = true → ∃ i, i ≤ m ∧ g.1 290 i = nI o) ∧ (∀ i, i < m → ∃ a, a < k ∧ g.1 289 i = nI a ∧ ¬ g.1 288 a ≤ 0 ∧ rm g a 0 = g.1 290 i) ∧ (∀ i j, i ≤ m → j ≤ m → g.1 290 i = g.1 290 j → i = j)
/-- the steps of the trip: arcs that differ -/
def TE (g : LH) (k m : Nat) : Prop := (∀ i, i < m → ∃ a, a < k ∧ g.1 289 i = nI a ∧ ¬ g.1 288 a ≤ 0) ∧ ∀ i j, i < m → j < m → g.1 289 i = g.1 289 j → i = j
theorem gt_1 {Q : tf_Q} (q : ∀ (m j : Nat) (x1 x4 : Int32) (x5 x6 : Value) (g : LH), m ≤ 7 → j < m → ScF h g → g.1 288 = h.1 288 → TE g k m → lx_X9_goesTrip 298 (tf_Cd 298 (d + 2)) Q 110 [.ref 270, .int x1, .int (nI m), .int (nI j), .int x4, x5, x6] [] g) (H : RM h n k) : ∀ (f m p : Nat) (V : Nat → Bool) (x3 : Int32) (x5 x6 : Value) (g : LH), m + f = 8 → ScF h g → g.1 288 = h.1 288 → TG g n k m p V → PO g k (nI p) → lx_X9_goesTrip 298 (tf_Cd 298 (d + 2)) Q 26 [.ref 270, .int (nI p), .int (nI m), .int x3, .int 1, x5, x6] [] g
  | 0, m, p, V, x3, x5, x6, g, hm, F, E, G, po => by
    have hn := H.1
    have := cv_le (V := V) n
    have := G.2.2.1
    omega
  | f + 1, m, p, V, x3, x5, x6, g, hm, F, E, G, po => by
    have hn := H.1
    have hcv := cv_le (V := V) n
    obtain ⟨g1, g2, g3, g4, g5, g6⟩ := G
    have H1 := H.sc F
    refine go_X9_goesTrip_26 (by decide) ⟨fun z => absurd z (by decide), fun _ => sx_oof (d := d) H1 (nI p) _ (go_X9_goesTrip_36 (by decide) ⟨vi_of (by omega) (by omega), ?_⟩)⟩
    rcases oof_po (g := g) (k := k) (p := nI p) with ⟨-, no⟩ | ⟨a, ha, ea, r0, lft⟩
    · exact absurd po no
    · rw [ea, nI_clamp (by omega), nI_1]
      show tf_Cd 298 (d + 2) _ _ (w1 g 289 m (nI a)) _
      have F1 : ScF h (w1 g 289 m (nI a)) := F.w (by omega)
      have x288 : (w1 g 289 m (nI a)).1 288 = g.1 288 := w1_ne (by decide)
      have x290 : (w1 g 289 m (nI a)).1 290 = g.1 290 := w1_ne (by decide)
      have x271 : (w1 g 289 m (nI a)).1 271 = g.1 271 := w1_ne (by decide)
      have y1 : (w1 g 289 m (nI a)).1 289 m = nI a := w1_eq
      have y2 : ∀ i, i ≠ m → (w1 g 289 m (nI a)).1 289 i = g.1 289 i := fun i hi => w1_at hi
      generalize w1 g 289 m (nI a) = ga at *
      have H2 := H.sc F1
      obtain ⟨p0, o, -, ho, -, eo⟩ := H2.ends ha
      refine sx_of (d := d + 1) a 1 rfl rfl (by omega) (by omega) _ (go_X9_goesTrip_56 (by decide) ?_)
      rw [eo]
      refine sp_sa (d := d + 1) (m := m + 1) (by omega) _ (fun v gs pv => ?_)
      obtain ⟨egs, pv⟩ := pv
      subst egs
      -- the step is added
      have add : ∀ (g2' : LH), g2' = w1 gs 290 (m + 1) (nI o) → ScF h g2' ∧ g2'.1 288 = h.1 288 ∧ g2'.1 271 = g.1 271 ∧ (∀ i, i ≤ m → g2'.1 290 i = g.1 290 i) ∧ g2'.1 290 (m + 1) = nI o ∧ (∀ i, i < m + 1 → ∃ a, a < k ∧ g2'.1 289 i = nI a ∧ ¬ g2'.1 288 a ≤ 0 ∧ rm g2' a 0 = g2'.1 290 i) := by
        intro g2' e
        have z288 : g2'.1 288 = gs.1 288 := by rw [e]; exact w1_ne (by decide)
        have z289 : g2'.1 289 = gs.1 289 := by rw [e]; exact w1_ne (by decide)
        have z271 : g2'.1 271 = gs.1 271 := by rw [e]; exact w1_ne (by decide)
        have z290 : ∀ i, i ≤ m → g2'.1 290 i = g.1 290 i := fun i hi => by rw [e, w1_at (by omega), x290]
        refine ⟨by rw [e]; exact F1.w (by omega), by rw [z288, x288]; exact E, by rw [z271, x271], z290, by rw [e, w1_eq], fun i hi => ?_⟩
        have rr0 : ∀ b, rm g2' b 0 = rm g b 0 := fun b => by unfold rm; rw [z271, x271]
        by_cases c : i = m
        · refine ⟨a, ha, by rw [z289, c, y1], by rw [z288, x288]; exact lft, ?_⟩
          rw [rr0, c, z290 m (by omega), g2]
          exact r0
        · obtain ⟨b, hb, e1, e2, e3⟩ := g5 i (by omega)
          exact ⟨b, hb, by rw [z289, y2 i c]; exact e1, by rw [z288, x288]; exact e2, by rw [rr0, z290 i (by omega)]; exact e3⟩
      have tofin : ∀ (g2' : LH), g2' = w1 gs 290 (m + 1) (nI o) → TE g2' k (m + 1) := by
        intro g2' e
        obtain ⟨-, -, -, z290, -, z5⟩ := add g2' e
        refine ⟨fun i hi => ?_, fun i j hi hj eq => ?_⟩
        · obtain ⟨b, hb, e1, e2, -⟩ := z5 i hi
          exact ⟨b, hb, e1, e2⟩
        · obtain ⟨b, hb, e1, -, e3⟩ := z5 i hi
          obtain ⟨b2, hb2, e4, -, e6⟩ := z5 j hj
          have : b = b2 := (nI_eq (by omega) (by omega)).mp (e1.symm.trans (eq.trans e4))
          subst this
          refine g6 i j (by omega) (by omega) ?_
          rw [← z290 i (by omega), ← z290 j (by omega), ← e3, ← e6]
      have fin : ∀ (j : Nat) (x1 x5 x6 : Int32), j < m + 1 → lx_X9_goesTrip 298 (tf_Cd 298 (d + 2)) Q 104 [.ref 270, .int x1, .int (nI (m + 1)), .int (nI j), .int 1, .int x5, .int x6] [] (w1 gs 290 (m + 1) (nI o)) := by
        intro j x1 x5 x6 hj
        obtain ⟨a1, a2, -⟩ := add _ rfl
        exact go_X9_goesTrip_104 (by decide) (go_X9_goesTrip_105 (by decide) (go_X9_goesTrip_26 (by decide) ⟨fun _ => q (m + 1) j _ _ _ _ _ (by omega) hj a1 a2 (tofin _ rfl), fun z => absurd rfl z⟩))
      have cl9 : (nI (m + 1)).toNatClampNeg = m + 1 := nI_clamp (by omega)
      rcases pv with ⟨ev, new⟩ | ⟨j, hj, ev⟩
      · subst ev
        refine go_X9_goesTrip_63 (by decide) ⟨fun _ => go_X9_goesTrip_77 (by decide) ⟨vi_of (by omega) (by omega), fun _ => ?_, fun z => absurd rfl z⟩, fun z => absurd rfl z⟩
        rw [cl9]
        obtain ⟨a1, a2, a3, a4, a5, a6⟩ := add _ rfl
        refine sx_oof (g := w1 gs 290 (m + 1) (nI o)) (d := d) (H.sc a1) (nI o) _ (go_X9_goesTrip_96 (by decide) ⟨fun _ => fin 0 _ _ _ (by omega), fun c => go_X9_goesTrip_105 (by decide) ?_⟩)
        have po2 : PO (w1 gs 290 (m + 1) (nI o)) k (nI o) := by
          rcases oof_po (g := w1 gs 290 (m + 1) (nI o)) (k := k) (p := nI o) with ⟨e, -⟩ | ⟨b, hb, -, w1', w2'⟩
          · exact absurd e c
          · exact ⟨b, hb, w1', w2'⟩
        have hVo : V o = false := by
          cases hv : V o with
          | false => rfl
          | true =>
            obtain ⟨i, hi, ei⟩ := g4 o hv
            exact absurd (by rw [x290]; exact ei) (new i (by omega))
        refine gt_1 q H f (m + 1) o (cadd V o) _ _ _ _ (by omega) a1 a2 ⟨ho, a5, by rw [(cv_add (V := V) (p := o) n).2 ho hVo, g3], fun o2 hv => ?_, a6, fun i j hi hj e => ?_⟩ po2
        · unfold cadd at hv
          by_cases c2 : o2 = o
          · exact ⟨m + 1, by omega, by rw [c2]; exact a5⟩
          · simp [c2] at hv
            obtain ⟨i, hi, ei⟩ := g4 o2 hv
            exact ⟨i, by omega, by rw [a4 i hi]; exact ei⟩
        · have nn : ∀ i, i ≤ m → ¬ g.1 290 i = nI o := fun i hi => by
            have := new i (by omega)
            rw [x290] at this
            exact this
          rcases Nat.lt_or_ge m i with c1 | c1 <;> rcases Nat.lt_or_ge m j with c2 | c2
          · omega
          · rw [show i = m + 1 by omega, a5, a4 j c2] at e
            exact absurd e.symm (nn j c2)
          · rw [show j = m + 1 by omega, a5, a4 i c1] at e
            exact absurd e (nn i c1)
          · rw [a4 i c1, a4 j c2] at e
            exact g6 i j c1 c2 e
      · subst ev
        have nj : ¬ nI j = -1 := nI_neg1 (by omega)
        refine go_X9_goesTrip_63 (by decide) ⟨fun z => absurd z nj, fun _ => go_X9_goesTrip_75 (by decide) (go_X9_goesTrip_77 (by decide) ⟨vi_of (by omega) (by omega), fun z => absurd z nj, fun _ => ?_⟩)⟩
        rw [cl9]
        exact fin j _ _ _ hj
/-- the steps are brought to the front, the least that is left is found -/
theorem gt_2 {m j : Nat} (hm : m ≤ 7) (hj : j < m) {x1 x2 x4 : Int32} (L : LN h k) (hk : k ≤ 14) {Q : tf_Q} (q : ∀ (t : Nat) (x5 : Int32) (x6 : Value) (g : LH), 1 ≤ t → t ≤ 1000000 → ScF h g → g.1 288 = h.1 288 → g.1 270 36 = nI (m - j) → g.1 270 37 = nI t → (∀ i, i < m - j → g.1 289 i = h.1 289 (i + j)) → (∀ i a, i < m - j → a < k → h.1 289 (i + j) = nI a → ∃ v, h.1 288 a = nI v ∧ t ≤ v ∧ v ≤ 99) → lx_X9_goesTrip 298 (tf_Cd 298 (d + 2)) Q 181 [.ref 270, .int x1, .int x2, .int (nI j), .int x4, .int x5, x6] [] g) (T : TE h k m) : ∀ (f x t : Nat) (x6 : Value) (g : LH), x + f = m - j → 1 ≤ t → t ≤ 1000000 → ScF h g → g.1 288 = h.1 288 → g.1 270 36 = nI (m - j) → g.1 270 37 = nI t → (∀ i, i < x → g.1 289 i = h.1 289 (i + j)) → (∀ i, x ≤ i → g.1 289 i = h.1 289 i) → (∀ i a, i < x → a < k → h.1 289 (i + j) = nI a → ∃ v, h.1 288 a = nI v ∧ t ≤ v ∧ v ≤ 99) → lx_X9_goesTrip 298 (tf_Cd 298 (d + 2)) Q 127 [.ref 270, .int x1, .int x2, .int (nI j), .int x4, .int (nI x), x6] [] g
  | 0, x, t, x6, g, hx, ht, ht2, F, E, e36, e37, s1, s2, s3 => by
    have e : x = m - j := by omega
    refine go_X9_goesTrip_127 (by decide) ⟨fun _ => q t _ _ g ht ht2 F E e36 e37 (by rw [← e]; exact s1) (by rw [← e]; exact s3), fun z => absurd ?_ z⟩
    rw [e36]
    exact nI_le (by omega) (by omega)
  | f + 1, x, t, x6, g, hx, ht, ht2, F, E, e36, e37, s1, s2, s3 => by
    refine go_X9_goesTrip_127 (by decide) ⟨fun z => ?_, fun _ => ?_⟩
    · rw [e36] at z
      exact absurd z (nI_ge (by omega) (by omega))
    · have cx : (nI x).toNatClampNeg = x := nI_clamp (by omega)
      rw [nI_add, cx, nI_clamp (by omega)]
      have v8 : vp_in (nI x) 8 := vi_of (by omega) (by omega)
      obtain ⟨a, ha, ea, lft⟩ := T.1 (x + j) (by omega)
      have y : g.1 289 (x + j) = nI a := by rw [s2 _ (by omega)]; exact ea
      rw [y]
      have F1 : ScF h (w1 g 289 x (nI a)) := F.w (by omega)
      have r1 : (w1 g 289 x (nI a)).1 289 x = nI a := w1_eq
      have r2 : (w1 g 289 x (nI a)).1 270 = g.1 270 := w1_ne (by decide)
      have r3 : (w1 g 289 x (nI a)).1 288 = g.1 288 := w1_ne (by decide)
      have r4 : ∀ i, i ≠ x → (w1 g 289 x (nI a)).1 289 i = g.1 289 i := fun i hi => w1_at hi
      show vp_in (nI (x + j)) 8 ∧ vp_in (nI x) 8 ∧ vp_in (nI x) 8 ∧ vp_in ((w1 g 289 x (nI a)).1 289 x) 14 ∧ tf_Cd 298 (d + 2) _ [.int ((w1 g 289 x (nI a)).1 270 37), .int ((w1 g 289 x (nI a)).1 288 ((w1 g 289 x (nI a)).1 289 x).toNatClampNeg)] (w1 g 289 x (nI a)) _
      generalize w1 g 289 x (nI a) = g1 at *
      rw [r1, nI_clamp (by omega), r2, r3, E, e37]
      obtain ⟨v, hv, ev⟩ := L a ha
      have hv0 : 1 ≤ v := by
        rcases Nat.eq_zero_or_pos v with z | z
        · rw [ev, z] at lft
          exact absurd (by decide) lft
        · exact z
      refine ⟨vi_of (by omega) (by omega), v8, v8, vi_of (by omega) (by omega), sx_lesser (d := d + 1) _ _ _ (go_X9_goesTrip_172 (by decide) ?_)⟩
      rw [ev]
      have mn : ∃ t2, 1 ≤ t2 ∧ t2 ≤ t ∧ t2 ≤ v ∧ rf_le (nI t) (nI v) = nI t2 := by
        unfold rf_le
        by_cases c : nI v ≤ nI t
        · rw [if_pos c]
          have := (nI_leI (by omega) (by omega)).mp c
          exact ⟨v, hv0, this, Nat.le_refl _, rfl⟩
        · rw [if_neg c]
          have : ¬ v ≤ t := fun z => c (nI_le z (by omega))
          exact ⟨t, ht, Nat.le_refl _, by omega, rfl⟩
      obtain ⟨t2, m1, m2, m3, m4⟩ := mn
      rw [m4, nI_1]
      show lx_X9_goesTrip 298 (tf_Cd 298 (d + 2)) Q 127 _ [] (w1 g1 270 37 (nI t2))
      have u1 : ∀ e, e ≠ 270 → (w1 g1 270 37 (nI t2)).1 e = g1.1 e := fun e he => w1_ne he
      refine gt_2 hm hj L hk q T f (x + 1) t2 _ _ (by omega) m1 (by omega) (F1.w0 (by decide)) (by rw [u1 288 (by decide), r3]; exact E) (by rw [w1_at (by decide), r2]; exact e36) w1_eq (fun i hi => ?_) (fun i hi => ?_) (fun i b hi hb eb => ?_)
      · rw [u1 289 (by decide)]
        by_cases c : i = x
        · rw [c, r1, ea]
        · rw [r4 i c]
          exact s1 i (by omega)
      · rw [u1 289 (by decide), r4 i (by omega)]
        exact s2 i (by omega)
      · by_cases c : i = x
        · rw [c, ea] at eb
          have : a = b := (nI_eq (by omega) (by omega)).mp eb
          rw [← this]
          exact ⟨v, ev, m3, hv⟩
        · obtain ⟨w, w1', w2', w3'⟩ := s3 i b (by omega) hb eb
          exact ⟨w, w1', by omega, w3'⟩
theorem sq_lt {g2 : LH} {b : Nat} : ∀ m, (∀ a, a < m → (g2.1 288 a).toNatClampNeg ≤ (g.1 288 a).toNatClampNeg) → sq g2 m ≤ sq g m ∧ (b < m → (g2.1 288 b).toNatClampNeg < (g.1 288 b).toNatClampNeg → sq g2 m < sq g m)
  | 0, _ => ⟨Nat.le_refl _, fun hb => absurd hb (by omega)⟩
  | m + 1, hs => by
    obtain ⟨i1, i2⟩ := sq_lt (b := b) m (fun a ha => hs a (by omega))
    have := hs m (by omega)
    refine ⟨by unfold sq; omega, fun hb hl => ?_⟩
    unfold sq
    by_cases e : b = m
    · rw [e] at hl
      omega
    · have := i2 (by omega) hl
      omega
/-- what was taken goes away -/
theorem gt_3 {T t : Nat} (hT : T ≤ 7) (ht : 1 ≤ t) (hk : k ≤ 14) {x1 x2 x3 x4 : Int32} {Q : tf_Q} (L : LN h k) (e36 : h.1 270 36 = nI T) (e37 : h.1 270 37 = nI t) (tr : ∀ i, i < T → ∃ a v, a < k ∧ h.1 289 i = nI a ∧ h.1 288 a = nI v ∧ t ≤ v ∧ v ≤ 99) (inj : ∀ i j, i < T → j < T → h.1 289 i = h.1 289 j → i = j) (q : ∀ g, ScF h g → LN g k → g.1 270 36 = nI T → (0 < T → sq g k < sq h k) → Q (.int 1) g) : ∀ (f x : Nat) (x6 : Value) (g : LH), x + f = T → ScF h g → (∀ i, i ≠ 5 → g.1 270 i = h.1 270 i) → g.1 289 = h.1 289 → LN g k → (∀ a, a < k → (g.1 288 a).toNatClampNeg ≤ (h.1 288 a).toNatClampNeg) → (∀ i a, x ≤ i → i < T → h.1 289 i = nI a → a < k → g.1 288 a = h.1 288 a) → (0 < x → ∃ a, a < k ∧ (g.1 288 a).toNatClampNeg < (h.1 288 a).toNatClampNeg) → lx_X9_goesTrip 298 (tf_Cd 298 (d + 2)) Q 184 [.ref 270, .int x1, .int x2, .int x3, .int x4, .int (nI x), x6] [] g
  | 0, x, x6, g, hx, F, f0, E9, Lg, le, un, dec => by
    refine go_X9_goesTrip_184 (by decide) ⟨fun _ => go_X9_goesTrip_218 (by decide) (q g F Lg (by rw [f0 36 (by decide)]; exact e36) (fun h0 => ?_)), fun z => absurd ?_ z⟩
    · obtain ⟨a, ha, hl⟩ := dec (by omega)
      exact (sq_lt (b := a) k le).2 ha hl
    · rw [f0 36 (by decide), e36]
      exact nI_le (by omega) (by omega)
  | f + 1, x, x6, g, hx, F, f0, E9, Lg, le, un, dec => by
    obtain ⟨a, v, ha, ea, ev, h1, h2⟩ := tr x (by omega)
    have cx : (nI x).toNatClampNeg = x := nI_clamp (by omega)
    have ga := un x a (Nat.le_refl _) (by omega) ea ha
    refine go_X9_goesTrip_184 (by decide) ⟨fun z => ?_, fun _ => ?_⟩
    · rw [f0 36 (by decide), e36] at z
      exact absurd z (nI_ge (by omega) (by omega))
    · rw [cx, E9, ea, nI_clamp (by omega), ga, ev, f0 37 (by decide), e37, nI_sub h1, nI_1]
      have v14 : vp_in (nI a) 14 := vi_of (by omega) (by omega)
      refine ⟨vi_of (by omega) (by omega), v14, v14, ?_⟩
      show lx_X9_goesTrip 298 (tf_Cd 298 (d + 2)) Q 184 _ [] (w1 g 288 a (nI (v - t)))
      have n1 : (w1 g 288 a (nI (v - t))).1 288 a = nI (v - t) := w1_eq
      have n2 : ∀ b, b ≠ a → (w1 g 288 a (nI (v - t))).1 288 b = g.1 288 b := fun b hb => w1_at hb
      refine gt_3 hT ht hk L e36 e37 tr inj q f (x + 1) _ _ (by omega) (F.w (by omega)) (fun i hi => by rw [w1_ne (by decide)]; exact f0 i hi) (by rw [w1_ne (by decide)]; exact E9) (fun b hb => ?_) (fun b hb => ?_) (fun i b hi hi2 eb hb => ?_) (fun _ => ⟨a, ha, ?_⟩)
      · by_cases c : b = a
        · rw [c, n1]
          exact ⟨v - t, by omega, rfl⟩
        · rw [n2 b c]
          exact Lg b hb
      · by_cases c : b = a
        · rw [c, n1, ev, nI_clamp (by omega), nI_clamp (by omega)]
          omega
        · rw [n2 b c]
          exact le b hb
      · have c : b ≠ a := fun z => by
          rw [z] at eb
          have := inj i x hi2 (by omega) (eb.trans ea.symm)
          omega
        rw [n2 b c]
        exact un i b (by omega) hi2 eb hb
      · rw [n1, ev, nI_clamp (by omega), nI_clamp (by omega)]
        omega
theorem sp_gt (H : RM g n k) (L : LN g k) : tf_Sp (d + 4) 90 [.ref 270] g (fun v g2 => ScF g g2 ∧ LN g2 k ∧ ((v = .int 0 ∧ g2 = g) ∨ (v = .int 1 ∧ sq g2 k < sq g k ∧ ∃ t, t ≤ 7 ∧ g2.1 270 36 = nI t))) := by
  intro Q q
  have hn := H.1
  refine en_X9_goesTrip (by decide) (go_X9_goesTrip_0 (by decide) (sp_st (d := d) H L _ (fun v g1 pv => ?_)))
  obtain ⟨e1, pv⟩ := pv
  subst e1
  rcases pv with ev | ⟨p, hp, ev, po⟩
  · subst ev
    exact go_X9_goesTrip_4 (by decide) ⟨fun _ => q _ _ ⟨ScF.rf, L, Or.inl ⟨rfl, rfl⟩⟩, fun z => absurd rfl z⟩
  · subst ev
    refine go_X9_goesTrip_4 (by decide) ⟨fun z => absurd z (nI_neg1 (by omega)), fun _ => go_X9_goesTrip_12 (by decide) ?_⟩
    show lx_X9_goesTrip 298 (tf_Cd 298 (d + 3)) Q 26 _ [] (w1 g1 290 0 (nI p))
    have x8 : (w1 g1 290 0 (nI p)).1 288 = g1.1 288 := w1_ne (by decide)
    have x1 : (w1 g1 290 0 (nI p)).1 271 = g1.1 271 := w1_ne (by decide)
    have x0 : (w1 g1 290 0 (nI p)).1 290 0 = nI p := w1_eq
    refine gt_1 (d := d + 1) (h := g1) (n := n) (k := k) ?_ H 8 0 p (cadd (fun _ => false) p) _ _ _ _ (by omega) (ScF.rf.w (by omega)) x8 ⟨hp, x0, ?_, fun o ho => ?_, fun i hi => absurd hi (by omega), fun i j hi hj _ => by omega⟩ ?_
    · intro m j x1 x4 x5 x6 g2 hm hj F2 E2 T2
      refine go_X9_goesTrip_110 (by decide) ?_
      rw [nI_sub (by omega)]
      show lx_X9_goesTrip 298 (tf_Cd 298 (d + 3)) Q 127 _ [] (w1 (w1 g2 270 36 (nI (m - j))) 270 37 1000000)
      have u1 : ∀ e, e ≠ 270 → (w1 (w1 g2 270 36 (nI (m - j))) 270 37 1000000).1 e = g2.1 e := fun e he => by rw [w1_ne he, w1_ne he]
      have u2 : (w1 (w1 g2 270 36 (nI (m - j))) 270 37 1000000).1 270 36 = nI (m - j) := (w1_at (by decide)).trans w1_eq
      have u3 : (w1 (w1 g2 270 36 (nI (m - j))) 270 37 1000000).1 270 37 = nI 1000000 := w1_eq
      have F3 : ScF g2 (w1 (w1 g2 270 36 (nI (m - j))) 270 37 1000000) := (ScF.rf.w0 (by decide)).w0 (by decide)
      generalize w1 (w1 g2 270 36 (nI (m - j))) 270 37 1000000 = g3 at *
      have L2 : LN g2 k := fun a ha => by rw [E2]; exact L a ha
      refine gt_2 (d := d + 1) (h := g2) hm hj L2 hn.2.2 (fun t x5 x6 g4 ht ht2 F4 E4 e36 e37 s1 s3 => go_X9_goesTrip_181 (by decide) ?_) T2 (m - j) 0 1000000 _ g3 (by omega) (by omega) (by omega) F3 (u1 288 (by decide)) u2 u3 (fun i hi => absurd hi (by omega)) (fun i _ => by rw [u1 289 (by decide)]) (fun i a hi => absurd hi (by omega))
      have L4 : LN g4 k := fun a ha => by rw [E4]; exact L2 a ha
      refine gt_3 (d := d + 1) (h := g4) (T := m - j) (t := t) (by omega) ht hn.2.2 L4 e36 e37 (fun i hi => ?_) (fun i j2 hi hj2 e => ?_) (fun g5 F5 L5 e5 d5 => q _ _ ⟨(F2.tr F4).tr F5, L5, Or.inr ⟨rfl, ?_, m - j, by omega, e5⟩⟩) (m - j) 0 _ g4 (by omega) ScF.rf (fun _ _ => rfl) rfl L4 (fun _ _ => Nat.le_refl _) (fun _ _ _ _ _ _ => rfl) (fun hz => absurd hz (by omega))
      · obtain ⟨a, ha, ea, -⟩ := T2.1 (i + j) (by omega)
        obtain ⟨v, v1, v2, v3⟩ := s3 i a hi ha ea
        exact ⟨a, v, ha, by rw [s1 i hi]; exact ea, by rw [E4]; exact v1, v2, v3⟩
      · rw [s1 i hi, s1 j2 hj2] at e
        have := T2.2 (i + j) (j2 + j) (by omega) (by omega) e
        omega
      · have sqe : ∀ m, sq g4 m = sq g1 m := by
          intro m
          induction m with
          | zero => rfl
          | succ m ih =>
            unfold sq
            rw [ih, E4, E2]
        have := d5 (by omega)
        rw [sqe] at this
        exact this
    · have z : ∀ m, cv (fun _ => false) m = 0 := by
        intro m
        induction m with
        | zero => rfl
        | succ m ih =>
          unfold cv
          rw [ih]
          rfl
      rw [(cv_add (V := fun _ => false) (p := p) n).2 hp rfl, z]
    · unfold cadd at ho
      simp at ho
      exact ⟨0, by omega, by rw [ho]; exact x0⟩
    · obtain ⟨a, ha, e1, e2⟩ := po
      exact ⟨a, ha, by unfold rm; rw [x1]; exact e1, by rw [x8]; exact e2⟩
theorem rt_c (G : GI h n k M) {x1 x2 : Int32} {Q : tf_Q} (q : ∀ (x3 : Int32) (g : LH), ScF h g → LN g k → lx_X9_trip 298 (tf_Cd 298 (d + 1)) Q 35 [.ref 270, .int x1, .int x2, .int x3, tf_z] [] g) : ∀ (f a : Nat) (g : LH), a + f = k → ScF h g → (∀ b, b < a → ∃ v, v ≤ 99 ∧ g.1 288 b = nI v) → lx_X9_trip 298 (tf_Cd 298 (d + 1)) Q 7 [.ref 270, .int x1, .int x2, .int (nI a), tf_z] [] g
  | 0, a, g, ha, F, L => by
    have hn := G.1.1
    exact go_X9_trip_7 (by decide) ⟨fun _ => q _ g F (fun b hb => L b (by omega)), fun z => absurd ((G.1.sc F).k2 (by omega) (by omega)) z⟩
  | f + 1, a, g, ha, F, L => by
    have hn := G.1.1
    have K : tf_K 288 = 8 := by decide +kernel
    have N : tf_N 288 = 14 := by decide +kernel
    obtain ⟨v, b, h1, h2, h3, -⟩ := (G.sc F).2.2.2.2.1.2.1 a (by omega)
    refine go_X9_trip_7 (by decide) ⟨fun z => absurd z ((G.1.sc F).k1 (by omega)), fun _ => sx_of (d := d) a 4 rfl rfl (by omega) (by omega) _ (go_X9_trip_28 (by decide) K (ny0 := 14) N (by decide) ⟨vi_of (by omega) (by omega), ?_⟩)⟩
    rw [nI_clamp (by omega), nI_1, h3]
    refine rt_c G q f (a + 1) (w1 g 288 a (nI v)) (by omega) (F.w (by omega)) (fun c hc => ?_)
    by_cases e : c = a
    · rw [e, w1_eq]
      exact ⟨v, by omega, rfl⟩
    · rw [w1_at e]
      exact L c (by omega)
theorem rt_l (H : RM h n k) {x1 x2 : Int32} {Q : tf_Q} (q : ∀ (x : Int32) (g : LH), ScF h g → Q (.int x) g) : ∀ (f : Nat) (x3 : Int32) (x4 : Int32) (g : LH), sq g k < f → ScF h g → LN g k → (x4 ≠ 0 → ∃ t, t ≤ 7 ∧ g.1 270 36 = nI t) → lx_X9_trip 298 (tf_Cd 298 (d + 4)) Q 43 [.ref 270, .int x1, .int x2, .int x3, .int x4] [] g
  | 0, x3, x4, g, hf, F, L, ht => absurd hf (by omega)
  | f + 1, x3, x4, g, hf, F, L, ht => by
    have e65 : lx_X9_trip 298 (tf_Cd 298 (d + 4)) Q 65 [.ref 270, .int x1, .int x2, .int x3, .int x4] [] g := by
      refine go_X9_trip_65 (by decide) ⟨fun _ => ⟨fun _ => ⟨fun _ => go_X9_trip_84 (by decide) (q _ g F), fun _ => go_X9_trip_83 (by decide) (go_X9_trip_84 (by decide) (q _ g F))⟩, fun _ => go_X9_trip_83 (by decide) (go_X9_trip_84 (by decide) (q _ g F))⟩, fun c => go_X9_trip_85 (by decide) ⟨fun _ => go_X9_trip_138 (by decide) (q _ g F), fun _ => go_X9_trip_96 (by decide) ⟨fun _ => go_X9_trip_138 (by decide) (q _ g F), fun _ => go_X9_trip_108 (by decide) (sx_in (d := d + 3) _ _ _ _ (go_X9_trip_122 (by decide) ⟨fun _ => go_X9_trip_137 (by decide) (go_X9_trip_138 (by decide) (q _ g F)), fun b => ⟨?_, go_X9_trip_138 (by decide) (q _ g F)⟩⟩))⟩⟩⟩
      obtain ⟨t, h1, h2⟩ := ht c
      rw [bI_0, Bool.not_eq_false, h2] at b
      rcases Nat.eq_zero_or_pos t with z | z
      · unfold rf_in at b
        simp only [Bool.and_eq_true, Bool.not_eq_true', decide_eq_false_iff_not] at b
        rw [z] at b
        have h1 := Int32.not_lt.mp b.1
        have h2 := Int32.not_lt.mp b.2
        exact absurd (Int32.le_trans h1 h2) (by decide)
      · have e : nI t - 1 = nI (t - 1) := by
          rw [show t = t - 1 + 1 by omega]
          exact nI_pred _
        rw [e] at b
        obtain ⟨j, -, h2, h3⟩ := rf_in_t (l := 0) (u := t - 1) (by omega) b (by omega)
        rw [h3]
        exact vi_of (by omega) (by omega)
    refine go_X9_trip_43 (by decide) ⟨fun _ => e65, fun _ => ⟨fun _ => e65, fun _ => sp_gt (d := d) (H.sc F) L _ (fun v g2 p => ?_)⟩⟩
    obtain ⟨F2, L2, ⟨ev, eg⟩ | ⟨ev, hs, ht2⟩⟩ := p
    · subst ev
      subst eg
      refine go_X9_trip_60 (by decide) (go_X9_trip_43 (by decide) ⟨fun _ => go_X9_trip_65 (by decide) ⟨fun _ => ⟨fun _ => ⟨fun _ => go_X9_trip_84 (by decide) (q _ _ F), fun _ => go_X9_trip_83 (by decide) (go_X9_trip_84 (by decide) (q _ _ F))⟩, fun _ => go_X9_trip_83 (by decide) (go_X9_trip_84 (by decide) (q _ _ F))⟩, fun z => absurd rfl z⟩, fun z => absurd rfl z⟩)
    · subst ev
      exact go_X9_trip_60 (by decide) (rt_l H q f _ _ g2 (by omega) (F.tr F2) L2 (fun _ => ht2))
theorem rq_trip (R : RI h M) (x y : Int32) : RQ 91 [.int x, .int y] h M := by
  intro Q q
  obtain ⟨n, k, G, R1, F⟩ := R.p0
  refine en_X9_trip (by decide) (go_X9_trip_0 (by decide) ?_)
  show lx_X9_trip 298 (tf_Cd 298 10) Q 7 [.ref 270, .int x, .int y, .int (nI 0), tf_z] [] (w1 h 270 0 0)
  generalize w1 h 270 0 0 = h1 at *
  have qq : ∀ (x : Int32) (g : LH), ScF h1 g → Q (.int x) g := fun x g F2 => q _ _ ⟨⟨x, rfl⟩, R1.sc F2, F.tr F2.of⟩
  refine rt_c (d := 9) G (fun x3 g F2 L => go_X9_trip_35 (by decide) (sp_gt (d := 6) (G.1.sc F2) L _ (fun v g2 p => ?_))) k 0 h1 (by omega) ScF.rf (fun b hb => absurd hb (by omega))
  obtain ⟨F3, L3, o⟩ := p
  have hx : ∃ x4 : Int32, v = .int x4 ∧ (x4 ≠ 0 → ∃ t, t ≤ 7 ∧ g2.1 270 36 = nI t) := by
    rcases o with ⟨ev, -⟩ | ⟨ev, -, ht⟩
    · exact ⟨0, ev, fun z => absurd rfl z⟩
    · exact ⟨1, ev, fun _ => ht⟩
  obtain ⟨x4, ev, ht⟩ := hx
  subst ev
  exact go_X9_trip_41 (by decide) (rt_l (d := 6) G.1 qq (sq g2 k + 1) _ _ g2 (by omega) (F2.tr F3) L3 ht)
end R89
