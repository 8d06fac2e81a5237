/-! ===== wide of the class ===== -/
section TJW
variable {h g r : LH} {t M d n k m : Nat} {tl hd fw bw : Nat → Nat}
def RXc (g : LH) (n : Nat) (rr : Nat → Nat) : Prop := ∀ p, p < n → g.1 265 p = nI (rr p) ∧ rr p ≤ 1000000
/-- the class's arcs, as numbers -/
def AC (g : LH) (n k : Nat) (tl hd fw bw : Nat → Nat) : Prop := ∀ a, a < k → (g.1 (0 + 2) a = nI (tl a) ∧ tl a < n) ∧ (g.1 (0 + 3) a = nI (hd a) ∧ hd a < n ∧ tl a ≠ hd a) ∧ (fw a ≤ 99 ∧ bw a ≤ 99) ∧ (g.1 (0 + 7) a = 3 → fw a = 0 ∧ bw a = 0) ∧ (g.1 (0 + 7) a ≠ 3 → g.1 (0 + 4) a - g.1 (0 + 6) a = nI (fw a) ∧ g.1 (0 + 6) a = nI (bw a))
theorem AC.same (A : AC h n k tl hd fw bw) (L : ∀ e, e ≠ 265 → g.1 e = h.1 e) : AC g n k tl hd fw bw := fun a ha => by
  rw [L (0 + 2) (by omega), L (0 + 3) (by omega), L (0 + 4) (by omega), L (0 + 6) (by omega), L (0 + 7) (by omega)]
  exact A a ha
theorem ac_of (A : AR r n k tl hd fw bw) (N : NS h 0 r n k) : AC h n k tl hd fw bw := fun a ha => by
  obtain ⟨-, -, E, F, -, S⟩ := N
  obtain ⟨⟨a1, a2⟩, ⟨a3, a4, a5⟩, a6, a7, a8⟩ := A a ha
  refine ⟨⟨(E.1 a ha).1.trans a1, a2⟩, ⟨(E.1 a ha).2.trans a3, a4, a5⟩, a6, fun z => ?_, fun z => ?_⟩
  · rcases S a ha with ⟨z6, e7, v⟩ | ⟨z6, e7, -⟩
    · obtain ⟨j, hj, ej⟩ := vi_nI v
      rw [e7, ej] at z
      have := (nI_eq (a := j) (b := 3) (by omega) (by omega)).mp z
      omega
    · exact a7 z6
  · rw [(F.1 a ha).1, (F.1 a ha).2]
    refine a8 (fun y => z ?_)
    rcases S a ha with ⟨z6, -, -⟩ | ⟨-, e7, -⟩
    · rw [z6] at y
      exact absurd y (by decide)
    · exact e7
theorem RXc.w {rr : Nat → Nat} (X : RXc g n rr) {i v : Nat} (hv : v ≤ 1000000) : RXc (w1 g 265 i (nI v)) n (wup rr i v) := fun j hj => by
  unfold wup
  by_cases e : j = i
  · rw [if_pos e, e, w1_eq]
    exact ⟨rfl, hv⟩
  · rw [if_neg e, w1_at e]
    exact X j hj
theorem cw_a {rr : Nat → Nat} (X : RXc g n rr) {p q v : Nat} (hp : p < n) (hq : q < n) (hv : v ≤ 99) : RXc (sp_a g p q (nI v)) n (wup rr q (max (rr q) (min (rr p) v))) := by
  obtain ⟨p1, p2⟩ := X p hp
  obtain ⟨q1, q2⟩ := X q hq
  unfold sp_a jmax jmin
  rw [p1, q1, (n_min (by omega) (by omega)).2, (n_max (by omega) (by
    have := Nat.min_le_right (rr p) v
    omega)).2]
  exact X.w (Nat.max_le.mpr ⟨q2, Nat.le_trans (Nat.min_le_right _ _) (by omega)⟩)
theorem cw_1 {rr : Nat → Nat} {a : Nat} (hn : n < 2 ^ 31) (X : RXc g n rr) (A : AC g n k tl hd fw bw) (ha : a < k) : ∃ r2, RXc (sp_1 g 0 a) n r2 ∧ (∀ p, rr p ≤ r2 p) ∧ (∀ v, 1 ≤ v → (v ≤ rr (tl a) → v ≤ fw a → v ≤ r2 (hd a)) ∧ (v ≤ rr (hd a) → v ≤ bw a → v ≤ r2 (tl a))) ∧ ∀ v p, 1 ≤ v → v ≤ r2 p → v ≤ rr p ∨ (p = hd a ∧ v ≤ rr (tl a) ∧ v ≤ fw a) ∨ (p = tl a ∧ v ≤ bw a ∧ v ≤ rr (hd a)) := by
  obtain ⟨⟨e2, t2⟩, ⟨e3, h2, th⟩, ⟨f9, b9⟩, bl, nb⟩ := A a ha
  unfold sp_1
  by_cases c : g.1 (0 + 7) a = 3
  · rw [if_pos c]
    obtain ⟨z1, z2⟩ := bl c
    exact ⟨rr, X, fun _ => Nat.le_refl _, fun v hv => ⟨fun _ z => by omega, fun _ z => by omega⟩, fun v p _ z => Or.inl z⟩
  · rw [if_neg c]
    obtain ⟨z1, z2⟩ := nb c
    obtain ⟨p, etl⟩ : ∃ p, tl a = p := ⟨_, rfl⟩
    obtain ⟨o, ehd⟩ : ∃ o, hd a = o := ⟨_, rfl⟩
    rw [etl] at e2 t2 th ⊢
    rw [ehd] at e3 h2 th ⊢
    have X1 := cw_a X t2 h2 f9
    have g6 : (sp_a g p o (nI (fw a))).1 (0 + 6) a = nI (bw a) := by
      unfold sp_a
      rw [w1_ne (by decide)]
      exact z2
    have X2 := cw_a X1 h2 t2 b9
    refine ⟨wup (wup rr o (max (rr o) (min (rr p) (fw a)))) p (max (wup rr o (max (rr o) (min (rr p) (fw a))) p) (min (wup rr o (max (rr o) (min (rr p) (fw a))) o) (bw a))), ?_, fun q => ?_, fun v hv => ⟨fun w1' w2 => ?_, fun w1' w2 => ?_⟩, fun v q hv w => ?_⟩
    · show RXc (sp_a (sp_a g (g.1 (0 + 2) a).toNatClampNeg (g.1 (0 + 3) a).toNatClampNeg (g.1 (0 + 4) a - g.1 (0 + 6) a)) (g.1 (0 + 3) a).toNatClampNeg (g.1 (0 + 2) a).toNatClampNeg ((sp_a g (g.1 (0 + 2) a).toNatClampNeg (g.1 (0 + 3) a).toNatClampNeg (g.1 (0 + 4) a - g.1 (0 + 6) a)).1 (0 + 6) a)) n _
      rw [e2, e3, z1, nI_clamp (by omega), nI_clamp (by omega), g6]
      exact X2
    · unfold wup
      split
      · rename_i y
        rw [y]
        refine Nat.le_trans ?_ (Nat.le_max_left _ _)
        exact Nat.le_refl _
      · split
        · rename_i y
          rw [y]
          exact Nat.le_max_left _ _
        · exact Nat.le_refl _
    · unfold wup
      rw [if_neg (fun y => th y.symm), if_pos rfl]
      exact Nat.le_trans (Nat.le_min.mpr ⟨w1', w2⟩) (Nat.le_max_right _ _)
    · unfold wup
      rw [if_pos rfl, if_pos rfl]
      exact Nat.le_trans (Nat.le_min.mpr ⟨Nat.le_trans w1' (Nat.le_max_left _ _), w2⟩) (Nat.le_max_right _ _)
    · unfold wup at w
      by_cases qp : q = p
      · rw [if_pos qp, if_neg th, if_pos rfl] at w
        rw [qp]
        rcases Nat.le_total (rr p) (min (max (rr o) (min (rr p) (fw a))) (bw a)) with y | y
        · rw [Nat.max_eq_right y] at w
          obtain ⟨w1', w2⟩ := Nat.le_min.mp w
          rcases Nat.le_total (rr o) (min (rr p) (fw a)) with y2 | y2
          · rw [Nat.max_eq_right y2] at w1'
            exact Or.inl (Nat.le_min.mp w1').1
          · rw [Nat.max_eq_left y2] at w1'
            exact Or.inr (Or.inr ⟨rfl, w2, w1'⟩)
        · rw [Nat.max_eq_left y] at w
          exact Or.inl w
      · rw [if_neg qp] at w
        by_cases qo : q = o
        · rw [if_pos qo] at w
          rw [qo]
          rcases Nat.le_total (rr o) (min (rr p) (fw a)) with y | y
          · rw [Nat.max_eq_right y] at w
            obtain ⟨w1', w2⟩ := Nat.le_min.mp w
            exact Or.inr (Or.inl ⟨rfl, w1', w2⟩)
          · rw [Nat.max_eq_left y] at w
            exact Or.inl w
        · rw [if_neg qo] at w
          exact Or.inl w
/-- what holds while one spreads: x begins, i rounds were gone -/
def CWi (tl hd fw bw : Nat → Nat) (n k x i A : Nat) (rr : Nat → Nat) : Prop := (∀ v p, 1 ≤ v → v ≤ 1000000 → rch (Ea tl hd fw bw k v) x i p → v ≤ rr p) ∧ (∀ v p c, 1 ≤ v → v ≤ 1000000 → rch (Ea tl hd fw bw k v) x i c → Ea tl hd fw bw A v c p → v ≤ rr p) ∧ ∀ v p, 1 ≤ v → p < n → v ≤ rr p → p = x ∨ fwp (Ea tl hd fw bw k v) n x p
theorem cw_L {x i : Nat} (hn : n < 2 ^ 31) : ∀ (f a : Nat) (g : LH) (rr : Nat → Nat), a + f = k → RXc g n rr → AC g n k tl hd fw bw → CWi tl hd fw bw n k x i a rr → ∃ r2, RXc (sp_L 0 f a g) n r2 ∧ CWi tl hd fw bw n k x i k r2
  | 0, a, g, rr, ha, X, A, C => by
    have e : a = k := by omega
    subst e
    exact ⟨rr, X, C⟩
  | f + 1, a, g, rr, ha, X, A, C => by
    obtain ⟨r2, X2, mono, fwd, bck⟩ := cw_1 hn X A (show a < k by omega)
    obtain ⟨C0, C1, S⟩ := C
    obtain ⟨⟨-, t2⟩, ⟨-, h2, -⟩, -, -, -⟩ := A a (by omega)
    rw [sp_L]
    refine cw_L hn f (a + 1) (sp_1 g 0 a) r2 (by omega) X2 (A.same (sp_1_lo).1) ⟨fun v p h1 h3 z => Nat.le_trans (C0 v p h1 h3 z) (mono p), fun v p c h1 h3 z e => ?_, fun v p h1 hp z => ?_⟩
    · obtain ⟨b, hb, e⟩ := e
      by_cases ba : b = a
      · subst ba
        rcases e with ⟨e1, e2, e3⟩ | ⟨e1, e2, e3⟩
        · rw [← e2]
          exact (fwd v h1).1 (by rw [e1]; exact C0 v c h1 h3 z) e3
        · rw [← e2]
          exact (fwd v h1).2 (by rw [e1]; exact C0 v c h1 h3 z) e3
      · exact Nat.le_trans (C1 v p c h1 h3 z ⟨b, by omega, e⟩) (mono p)
    · have go : ∀ c, c < n → v ≤ rr c → Ea tl hd fw bw k v c p → p = x ∨ fwp (Ea tl hd fw bw k v) n x p := fun c hc w e => by
        rcases S v c h1 hc w with y | y
        · rw [y] at e
          exact Or.inr (fwp_up n e)
        · exact Or.inr (fwp_tr n hc y (fwp_up n e))
      rcases bck v p h1 z with y | ⟨y1, y2, y3⟩ | ⟨y1, y2, y3⟩
      · exact S v p h1 hp y
      · exact go (tl a) t2 y2 ⟨a, by omega, Or.inl ⟨rfl, y1.symm, y3⟩⟩
      · exact go (hd a) h2 y3 ⟨a, by omega, Or.inr ⟨rfl, y1.symm, y2⟩⟩
theorem cw_r {x : Nat} (hn : n < 2 ^ 31) : ∀ (f i : Nat) (g : LH) (rr : Nat → Nat), RXc g n rr → AC g n k tl hd fw bw → CWi tl hd fw bw n k x i 0 rr → ∃ r2, RXc (wi_r k f g) n r2 ∧ CWi tl hd fw bw n k x (i + f) 0 r2
  | 0, i, g, rr, X, A, C => ⟨rr, X, C⟩
  | f + 1, i, g, rr, X, A, C => by
    obtain ⟨r2, X2, C0, C1, S⟩ := cw_L (x := x) (i := i) hn k 0 g rr (by omega) X A C
    rw [wi_r]
    have := cw_r (x := x) hn f (i + 1) (sp_L 0 k 0 g) r2 X2 (A.same (sp_L_lo k 0 g).1) ⟨fun v p h1 h3 z => by
      rcases z with z | ⟨c, z1, z2⟩
      · exact C0 v p h1 h3 z
      · exact C1 v p c h1 h3 z1 z2, fun v p c _ _ _ e => by
      obtain ⟨b, hb, -⟩ := e
      omega, S⟩
    rw [show i + 1 + f = i + (f + 1) by omega] at this
    exact this
theorem wi_z_at : ∀ (f p : Nat) (g : LH) (q : Nat), (p ≤ q → q < p + f → (wi_z f p g).1 265 q = 0) ∧ (q < p → (wi_z f p g).1 265 q = g.1 265 q)
  | 0, p, g, q => ⟨fun h1 h2 => by omega, fun _ => rfl⟩
  | f + 1, p, g, q => by
    rw [wi_z]
    obtain ⟨i1, i2⟩ := wi_z_at f (p + 1) (w1 g 265 p 0) q
    refine ⟨fun h1 h2 => ?_, fun h1 => ?_⟩
    · by_cases e : q = p
      · rw [i2 (by omega), e, w1_eq]
      · exact i1 (by omega) (by omega)
    · rw [i2 (by omega), w1_at (by omega)]
/-- what gets through, of the class -/
theorem cw_g {x y : Nat} (hx : x < n) (hy : y < n) (xy : x ≠ y) (hn : n < 2 ^ 31) (A : AC h n k tl hd fw bw) : ∃ w, (wi_g h n k (nI x)).1 265 y = nI w ∧ w ≤ 1000000 ∧ ∀ v, 1 ≤ v → v ≤ 1000000 → (v ≤ w ↔ fwp (Ea tl hd fw bw k v) n x y) := by
  have hE : ∀ v p q, Ea tl hd fw bw k v p q → q < n := fun v p q e => by
    obtain ⟨a, ha, e⟩ := e
    obtain ⟨⟨-, t2⟩, ⟨-, h2, -⟩, -, -, -⟩ := A a ha
    rcases e with ⟨-, e, -⟩ | ⟨-, e, -⟩
    · rw [← e]; exact h2
    · rw [← e]; exact t2
  unfold wi_g
  rw [nI_clamp (by omega)]
  have X0 : RXc (w1 (wi_z n 0 h) 265 x 1000000) n (fun p => if p = x then 1000000 else 0) := fun p hp => by
    show (w1 (wi_z n 0 h) 265 x 1000000).1 265 p = nI (if p = x then 1000000 else 0) ∧ (if p = x then 1000000 else 0) ≤ 1000000
    by_cases e : p = x
    · rw [if_pos e, e, w1_eq]
      exact ⟨rfl, Nat.le_refl _⟩
    · rw [if_neg e, w1_at e, (wi_z_at n 0 h p).1 (Nat.zero_le _) (by omega)]
      exact ⟨rfl, Nat.zero_le _⟩
  have A0 : AC (w1 (wi_z n 0 h) 265 x 1000000) n k tl hd fw bw := A.same (fun e he => by rw [w1_ne he, (wi_z_lo n 0 h).1 e he])
  obtain ⟨r2, X2, C0, -, S⟩ := cw_r (x := x) hn (n - 1) 0 _ _ X0 A0 ⟨fun v p h1 h3 z => by
    have z : p = x := z
    show v ≤ (if p = x then 1000000 else 0)
    rw [if_pos z]
    exact h3, fun v p c _ _ _ e => by
    obtain ⟨b, hb, -⟩ := e
    omega, fun v p h1 hp z => by
    have z : v ≤ (if p = x then 1000000 else 0) := z
    by_cases e : p = x
    · exact Or.inl e
    · rw [if_neg e] at z
      omega⟩
  obtain ⟨e1, e2⟩ := X2 y hy
  refine ⟨r2 y, e1, e2, fun v h1 h3 => ⟨fun z => (S v y h1 hy z).resolve_left (fun w => xy w.symm), fun z => ?_⟩⟩
  obtain ⟨j, hj⟩ := fwp_rch (x := x) n (i := 0) z rfl
  have := rch_n hx (hE v) hj
  rw [Nat.zero_add] at C0
  exact C0 v y h1 h3 this
theorem cv_wide (H : NO h 0 n k) (x y : Int32) : (nt_two h 0 x y = false → tf_Rt 11 201 [.ref 240, .int x, .int y] h (.int (-1)) h) ∧ (nt_two h 0 x y = true → tf_Rt 11 201 [.ref 240, .int x, .int y] h (.int ((wi_g h n k x).1 265 y.toNatClampNeg)) (wi_g h n k x)) := by
  have s1 := sx_two (h := h) (d := 8) H.1 x y
  refine ⟨fun e => fun Q q => en_X8_wide (by decide) (go_X8_wide_0 (by decide) (s1 _ (go_X8_wide_9 (by decide) ⟨fun _ => q, fun z => absurd (by rw [bI_0]; exact e) z⟩))), fun e => ?_⟩
  obtain ⟨hx, hy⟩ := two_in H e
  intro Q q
  unfold wi_g at q
  have HZ : NO (w1 (wi_z n 0 h) 265 x.toNatClampNeg 1000000) 0 n k := H.n265 (fun e he => by rw [w1_ne he, (wi_z_lo n 0 h).1 e he])
  have hn := H.pts.2
  refine en_X8_wide (by decide) (go_X8_wide_0 (by decide) (s1 _ (go_X8_wide_9 (by decide) ⟨fun z => ?_, fun _ => go_X8_wide_14 (by decide) (pq_wiZ n 0 h H (by omega) (fun x3 => go_X8_wide_40 (by decide) ⟨hx, pq_wiR hy (n - 1) 1 _ HZ (by omega) (by omega) q⟩))⟩)))
  rw [bI_0, e] at z
  exact absurd z (by decide)
theorem xv_wide (G0 : GI g n k M) (N : NR h 0 g n k m) (x y : Int32) : XV 86 [.int x, .int y] g (if nt_two h 0 x y = true then (wi_g h n k x).1 265 y.toNatClampNeg else -1) := by
  intro Q q
  have q2 : ∀ (v : Int32) (g : LH), v = (if nt_two h 0 x y = true then (wi_g h n k x).1 265 y.toNatClampNeg else -1) → Q (.int v) g := fun v g e => q _ g (by rw [e])
  clear q
  have G : GI (w1 g 270 0 0) n k M := G0.w (by decide)
  have N1 : NR h 0 (w1 g 270 0 0) n k m := N.w0 G0
  have e2 := two_eqr G N1 x y
  refine en_X9_wide (by decide) (go_X9_wide_0 (by decide) ?_)
  show tf_Cd 298 10 _ _ (w1 g 270 0 0) _
  generalize w1 g 270 0 0 = h1 at *
  refine sx_rtwo (d := 7) x y _ (go_X9_wide_11 (by decide) ⟨fun b => q2 _ _ ?_, fun b => go_X9_wide_16 (by decide) ?_⟩)
  · rw [bI_0, ← e2] at b
    rw [b]
    rfl
  rw [bI_0, Bool.not_eq_false] at b
  rw [b] at e2
  rw [if_pos e2] at q2
  obtain ⟨p, o, hp, ho, po, ep, eo⟩ := rf_two_t G.1 b
  subst ep eo
  have hn := G.1.1
  obtain ⟨tl, hd, fw, bw, A⟩ := ar_of G
  obtain ⟨w, w1', w2, w3⟩ := cw_g hp ho po (by omega) (ac_of A N1.1)
  rw [nI_clamp (show o < 2 ^ 31 by omega), w1'] at q2
  refine xw_z (h := h1) (fun x3 g F2 X2 => go_X9_wide_37 (by decide) (xw_a (d := 9) G.1 A (fun x3 x4 x5 g rr F3 X3 Z3 => go_X9_wide_174 (by decide) (xw_m (d := 9) (E := Ea tl hd fw bw k) G.1 (show p < 8 by omega) (show o < 8 by omega) (fun g rr r6 R => q2 _ g ?_) n 0 g _ _ rr (by omega) F3 X3 (fun v p o hv h2 h3 z => (Z3 v p o hv h2 h3).mpr z) (fun v p o hv h2 h3 z => fwp_up n ((Z3 v p o hv h2 h3).mp z)))) k 0 g _ _ _ (by omega) F2 X2 (fun v p o hv _ _ => ⟨fun z => absurd (show v ≤ 0 from z) (by omega), fun z => by
    obtain ⟨b, hb, -⟩ := z
    omega⟩))) 64 0 h1 (by omega) ScF.rf (fun i hi => absurd hi (by omega))
  congr 1
  rcases Nat.lt_trichotomy (rr (8 * p + o)) w with z | z | z
  · have := (R w (by omega)).mpr ((w3 w (by omega) w2).mp (Nat.le_refl _))
    omega
  · exact z
  · have := (w3 (rr (8 * p + o)) (by omega) r6).mpr ((R (rr (8 * p + o)) (by omega)).mp (Nat.le_refl _))
    omega
theorem ze_22 (I : IZ h t) (x y : Int32) : lk_eq h 201 [.ref 240, .int x, .int y] 86 [.ref 270, .int x, .int y] (fun g => IZ g (t + 1)) := by
  obtain ⟨n, k, m, hm, H, G, N⟩ := I.1.1
  obtain ⟨a, b⟩ := cv_wide H.1 x y
  by_cases e : nt_two h 0 x y = true
  · have L := wi_g_lo (h := h) (n := n) (k := k) (x := x)
    have rw1 : RW h (wi_g h n k x) := RW.of (L.1 271 (by decide))
    have := xv_wide (G.cong rw1) (N.rw rw1 G.1.1.2.1 G.1.1.2.2) x y
    rw [if_pos e] at this
    exact ze_q (iz_22 I x y) (b e) this
  · have := xv_wide G N x y
    rw [if_neg e] at this
    exact ze_q (iz_22 I x y) (a (Bool.eq_false_iff.mpr e)) this
end TJW
