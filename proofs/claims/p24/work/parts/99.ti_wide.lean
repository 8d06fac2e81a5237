/-! ===== wide: what gets through, two ways ===== -/
/-- ways with points below m between, as they are widened one by one -/
def fwp (E : Nat → Nat → Prop) : Nat → Nat → Nat → Prop
  | 0, p, q => E p q
  | m + 1, p, q => fwp E m p q ∨ (fwp E m p m ∧ fwp E m m q)
/-- ways of at most m steps from x -/
def rch (E : Nat → Nat → Prop) (x : Nat) : Nat → Nat → Prop
  | 0, p => p = x
  | m + 1, p => rch E x m p ∨ ∃ c, rch E x m c ∧ E c p
section TIP
variable {E : Nat → Nat → Prop} {x n : Nat}
theorem fwp_up : ∀ (m : Nat) {p q : Nat}, E p q → fwp E m p q
  | 0, _, _, e => e
  | m + 1, _, _, e => Or.inl (fwp_up m e)
theorem fwp_tr : ∀ (m : Nat) {c p q : Nat}, c < m → fwp E m p c → fwp E m c q → fwp E m p q
  | 0, c, p, q, hc, _, _ => by omega
  | m + 1, c, p, q, hc, a, b => by
    by_cases e : c = m
    · subst e
      have a2 : fwp E c p c := a.elim id (fun z => z.1)
      have b2 : fwp E c c q := b.elim id (fun z => z.2)
      exact Or.inr ⟨a2, b2⟩
    · have hc2 : c < m := by omega
      rcases a with a | ⟨a1, a2⟩
      · rcases b with b | ⟨b1, b2⟩
        · exact Or.inl (fwp_tr m hc2 a b)
        · exact Or.inr ⟨fwp_tr m hc2 a b1, b2⟩
      · rcases b with b | ⟨b1, b2⟩
        · exact Or.inr ⟨a1, fwp_tr m hc2 a2 b⟩
        · exact Or.inr ⟨a1, b2⟩
theorem rch_up : ∀ (j m : Nat) {p : Nat}, rch E x m p → rch E x (m + j) p
  | 0, _, _, e => e
  | j + 1, m, _, e => Or.inl (rch_up j m e)
/-- a way is gone in steps -/
theorem fwp_rch : ∀ (m : Nat) {p q i : Nat}, fwp E m p q → rch E x i p → ∃ j, rch E x j q
  | 0, p, q, i, e, r => ⟨i + 1, Or.inr ⟨p, r, e⟩⟩
  | m + 1, p, q, i, e, r => by
    rcases e with e | ⟨e1, e2⟩
    · exact fwp_rch m e r
    · obtain ⟨j, hj⟩ := fwp_rch m e1 r
      exact fwp_rch m e2 hj
noncomputable def rcb (E : Nat → Nat → Prop) (x m : Nat) : Nat → Bool := fun p => @decide (rch E x m p) (Classical.propDecidable _)
theorem rcb_t {m p : Nat} : rcb E x m p = true ↔ rch E x m p := by
  unfold rcb
  exact @decide_eq_true_iff _ (Classical.propDecidable _)
theorem rch_st {m : Nat} (s : ∀ p, rch E x (m + 1) p → rch E x m p) : ∀ (j : Nat) {p : Nat}, rch E x (m + j) p → rch E x m p
  | 0, _, e => e
  | j + 1, _, e => by
    rcases e with e | ⟨c, e1, e2⟩
    · exact rch_st s j e
    · exact s _ (Or.inr ⟨c, rch_st s j e1, e2⟩)
/-- n points: n - 1 steps reach all -/
theorem rch_n (hx : x < n) (hE : ∀ p q, E p q → q < n) {j p : Nat} (e : rch E x j p) : rch E x (n - 1) p := by
  have key : ∀ m, (∃ m0, m0 < m ∧ ∀ p, rch E x (m0 + 1) p → rch E x m0 p) ∨ m + 1 ≤ cv (rcb E x m) n := by
    intro m
    induction m with
    | zero =>
      right
      have := cv_more (V := fun _ => false) (W := rcb E x 0) (fun a z => by cases z) (c := x) rfl (rcb_t.mpr rfl) n hx
      omega
    | succ m ih =>
      rcases ih with ⟨m0, h1, h2⟩ | ih
      · exact Or.inl ⟨m0, by omega, h2⟩
      · by_cases s : ∀ p, rch E x (m + 1) p → rch E x m p
        · exact Or.inl ⟨m, by omega, s⟩
        · right
          have ex : ∃ p, rch E x (m + 1) p ∧ ¬ rch E x m p := by
            apply Classical.byContradiction
            intro z
            refine s (fun p hp => ?_)
            apply Classical.byContradiction
            intro z2
            exact z ⟨p, hp, z2⟩
          obtain ⟨p, p1, p2⟩ := ex
          have pn : p < n := by
            rcases p1 with p1 | ⟨c, -, e2⟩
            · exact absurd p1 p2
            · exact hE c p e2
          have := cv_more (V := rcb E x m) (W := rcb E x (m + 1)) (fun a z => rcb_t.mpr (Or.inl (rcb_t.mp z))) (c := p) (Bool.eq_false_iff.mpr (fun z => p2 (rcb_t.mp z))) (rcb_t.mpr p1) n pn
          omega
  obtain ⟨m0, h1, h2⟩ := (key n).resolve_right (fun z => by
    have := cv_le (V := rcb E x n) n
    omega)
  have e0 : rch E x m0 p := by
    rcases Nat.lt_or_ge j m0 with z | z
    · have := rch_up (E := E) (x := x) (m0 - j) j e
      rw [show j + (m0 - j) = m0 by omega] at this
      exact this
    · have := rch_st h2 (j - m0) (p := p)
      rw [show m0 + (j - m0) = j by omega] at this
      exact this e
  have := rch_up (E := E) (x := x) (n - 1 - m0) m0 e0
  rw [show m0 + (n - 1 - m0) = n - 1 by omega] at this
  exact this
end TIP
section TIW
variable {h g r : LH} {t M d n k m : Nat} {tl hd fw bw : Nat → Nat}
theorem n_max {a b : Nat} (ha : a < 2 ^ 31) (hb : b < 2 ^ 31) : (if nI a ≤ nI b then nI b else nI a) = nI (max a b) ∧ (if nI a < nI b then nI b else nI a) = nI (max a b) := by
  have e1 : (nI a ≤ nI b) ↔ a ≤ b := nI_leI ha hb
  have e2 : (nI a < nI b) ↔ a < b := nI_ltI ha hb
  constructor
  · by_cases z : a ≤ b
    · rw [if_pos (e1.mpr z), Nat.max_eq_right z]
    · rw [if_neg (fun y => z (e1.mp y)), Nat.max_eq_left (by omega)]
  · by_cases z : a < b
    · rw [if_pos (e2.mpr z), Nat.max_eq_right (by omega)]
    · rw [if_neg (fun y => z (e2.mp y)), Nat.max_eq_left (by omega)]
theorem n_min {a b : Nat} (ha : a < 2 ^ 31) (hb : b < 2 ^ 31) : (if nI b ≤ nI a then nI b else nI a) = nI (min a b) ∧ (if nI b < nI a then nI b else nI a) = nI (min a b) := by
  have e1 : (nI b ≤ nI a) ↔ b ≤ a := nI_leI hb ha
  have e2 : (nI b < nI a) ↔ b < a := nI_ltI hb ha
  constructor
  · by_cases z : b ≤ a
    · rw [if_pos (e1.mpr z), Nat.min_eq_right z]
    · rw [if_neg (fun y => z (e1.mp y)), Nat.min_eq_left (by omega)]
  · by_cases z : b < a
    · rw [if_pos (e2.mpr z), Nat.min_eq_right (by omega)]
    · rw [if_neg (fun y => z (e2.mp y)), Nat.min_eq_left (by omega)]
/-- arcs with their ends and rooms, as numbers -/
def AR (g : LH) (n k : Nat) (tl hd fw bw : Nat → Nat) : Prop := ∀ a, a < k → (rm g a 0 = nI (tl a) ∧ tl a < n) ∧ (rm g a 1 = nI (hd a) ∧ hd a < n ∧ tl a ≠ hd a) ∧ (fw a ≤ 99 ∧ bw a ≤ 99) ∧ (rm g a 6 = 1 → fw a = 0 ∧ bw a = 0) ∧ (rm g a 6 ≠ 1 → rm g a 2 - rm g a 4 = nI (fw a) ∧ rm g a 4 = nI (bw a))
/-- by one of the first A arcs v gets through -/
def Ea (tl hd fw bw : Nat → Nat) (A v p q : Nat) : Prop := ∃ a, a < A ∧ ((tl a = p ∧ hd a = q ∧ v ≤ fw a) ∨ (hd a = p ∧ tl a = q ∧ v ≤ bw a))
theorem ar_of (G : GI g n k M) : ∃ tl hd fw bw, AR g n k tl hd fw bw := by
  have n7 := G.1.1
  obtain ⟨A1, A2, -, -⟩ := G.2.2.2.2.1
  refine ⟨fun a => (rm g a 0).toNatClampNeg, fun a => (rm g a 1).toNatClampNeg, fun a => if rm g a 6 = 1 then 0 else (rm g a 2).toNatClampNeg - (rm g a 4).toNatClampNeg, fun a => if rm g a 6 = 1 then 0 else (rm g a 4).toNatClampNeg, fun a ha => ?_⟩
  obtain ⟨p, q, hp, hq, e1, e2⟩ := G.1.ends ha
  obtain ⟨v, w, h1, h2, h3, h4⟩ := A2 a ha
  have ne := A1 a ha
  rw [e1, e2] at ne
  dsimp only
  rw [e1, e2, h3, h4, nI_clamp (by omega), nI_clamp (by omega), nI_clamp (by omega), nI_clamp (by omega)]
  refine ⟨⟨rfl, hp⟩, ⟨rfl, hq, fun z => ne (by rw [z])⟩, ⟨by split <;> omega, by split <;> omega⟩, fun z => by rw [if_pos z, if_pos z]; exact ⟨rfl, rfl⟩, fun z => ?_⟩
  rw [if_neg z, if_neg z]
  exact ⟨nI_sub h1, rfl⟩
/-! the reference -/
def MXr (g : LH) (r : Nat → Nat) : Prop := ∀ i, i < 64 → g.1 287 i = nI (r i) ∧ r i ≤ 1000000
def wup (r : Nat → Nat) (i v : Nat) : Nat → Nat := fun j => if j = i then v else r j
theorem MXr.w {rr : Nat → Nat} (X : MXr g rr) {i v : Nat} (hv : v ≤ 1000000) : MXr (w1 g 287 i (nI v)) (wup rr i v) := fun j hj => by
  unfold wup
  by_cases e : j = i
  · rw [if_pos e, e, w1_eq]
    exact ⟨rfl, hv⟩
  · rw [if_neg e, w1_at e]
    exact X j hj
theorem xw_z {x1 x2 : Int32} {Q : tf_Q} (q : ∀ (x3 : Int32) (g : LH), ScF h g → MXr g (fun _ => 0) → lx_X9_wide 298 (tf_Cd 298 d) Q 37 [.ref 270, .int x1, .int x2, .int x3, tf_z, tf_z] [] g) : ∀ (f x : Nat) (g : LH), x + f = 64 → ScF h g → (∀ i, i < x → g.1 287 i = 0) → lx_X9_wide 298 (tf_Cd 298 d) Q 18 [.ref 270, .int x1, .int x2, .int (nI x), tf_z, tf_z] [] g
  | 0, x, g, hx, F, Z => by
    have e : x = 64 := by omega
    subst e
    exact go_X9_wide_18 (by decide) ⟨fun _ => q _ g F (fun i hi => ⟨Z i hi, Nat.zero_le _⟩), fun z => absurd (nI_le (a := 64) (b := 64) (by omega) (by omega)) z⟩
  | f + 1, x, g, hx, F, Z => by
    refine go_X9_wide_18 (by decide) ⟨fun z => absurd z (nI_ge (a := x) (b := 64) (by omega) (by omega)), fun _ => ⟨vi_of (by omega) (by omega), ?_⟩⟩
    rw [nI_1, nI_clamp (by omega)]
    refine xw_z q f (x + 1) (w1 g 287 x 0) (by omega) (F.w (by omega)) (fun i hi => ?_)
    by_cases e : i = x
    · rw [e, w1_eq]
    · rw [w1_at e]
      exact Z i (by omega)
theorem xw_a (H : RM h n k) (A : AR h n k tl hd fw bw) {x1 x2 : Int32} {Q : tf_Q} (q : ∀ (x3 : Int32) (x4 x5 : Value) (g : LH) (rr : Nat → Nat), ScF h g → MXr g rr → (∀ v p o, 1 ≤ v → p < 8 → o < 8 → (v ≤ rr (8 * p + o) ↔ Ea tl hd fw bw k v p o)) → lx_X9_wide 298 (tf_Cd 298 (d + 1)) Q 174 [.ref 270, .int x1, .int x2, .int x3, x4, x5] [] g) : ∀ (f a : Nat) (g : LH) (x4 x5 : Value) (rr : Nat → Nat), a + f = k → ScF h g → MXr g rr → (∀ v p o, 1 ≤ v → p < 8 → o < 8 → (v ≤ rr (8 * p + o) ↔ Ea tl hd fw bw a v p o)) → lx_X9_wide 298 (tf_Cd 298 (d + 1)) Q 39 [.ref 270, .int x1, .int x2, .int (nI a), x4, x5] [] g
  | 0, a, g, x4, x5, rr, ha, F, X, Z => by
    have hn := H.1
    have e : a = k := by omega
    subst e
    exact go_X9_wide_39 (by decide) ⟨fun _ => q _ _ _ g rr F X Z, fun z => absurd ((H.sc F).k2 (by omega) (by omega)) z⟩
  | f + 1, a, g, x4, x5, rr, ha, F, X, Z => by
    have hn := H.1
    have H1 := H.sc F
    have K : tf_K 287 = 8 := by decide +kernel
    have N : tf_N 287 = 64 := by decide +kernel
    obtain ⟨⟨ep, hp⟩, ⟨eo, ho, po⟩, ⟨f9, b9⟩, bl, nb⟩ := A a (by omega)
    have rg : ∀ w, rm g a w = rm h a w := fun w => by unfold rm; rw [F.1 271 (by decide) (by decide)]
    have s : ∀ (w : Nat) (y : Int32) (g2 : LH), w < 7 → y = nI w → tf_Rt (d + 1) _ [.ref 270, .int (nI a), .int y] g2 (.int (rm g2 a w)) g2 := fun w y g2 hw ey => sx_of (d := d) a w rfl ey (by omega) hw
    have e8 : ∀ x y : Nat, (8 : Int32) * nI x + nI y = nI (8 * x + y) := fun x y => by rw [show (8 : Int32) = nI 8 from rfl, nI_mul, nI_add]
    refine go_X9_wide_39 (by decide) ⟨fun z => absurd z (H1.k1 (by omega)), fun _ => s 0 0 g (by omega) rfl _ (go_X9_wide_57 (by decide) (s 1 1 g (by omega) rfl _ (go_X9_wide_64 (by decide) (s 1 1 g (by omega) rfl _ (go_X9_wide_75 (by decide) (s 0 0 g (by omega) rfl _ (go_X9_wide_82 (by decide) ?_)))))))⟩
    rw [rg, rg, ep, eo, e8, e8]
    obtain ⟨p, etl⟩ : ∃ p, tl a = p := ⟨_, rfl⟩
    obtain ⟨o, ehd⟩ : ∃ o, hd a = o := ⟨_, rfl⟩
    rw [etl] at hp po ⊢
    rw [ehd] at ho po ⊢
    have vx : vp_in (nI (8 * p + o)) 64 := vi_of (by omega) (by omega)
    have vy : vp_in (nI (8 * o + p)) 64 := vi_of (by omega) (by omega)
    have cx : (nI (8 * p + o)).toNatClampNeg = 8 * p + o := nI_clamp (by omega)
    have cy : (nI (8 * o + p)).toNatClampNeg = 8 * o + p := nI_clamp (by omega)
    have xy : 8 * o + p ≠ 8 * p + o := by omega
    obtain ⟨rx, rx6⟩ := X (8 * p + o) (by omega)
    obtain ⟨ry, ry6⟩ := X (8 * o + p) (by omega)
    have rest : ∀ (g1 : LH), ScF h g1 → MXr g1 (wup rr (8 * p + o) (max (rr (8 * p + o)) (fw a))) → lx_X9_wide 298 (tf_Cd 298 (d + 1)) Q 150 [.ref 270, .int x1, .int x2, .int (nI a), .int (nI (8 * p + o)), .int (nI (8 * o + p))] [.int (rm g1 a 6), .int (g1.1 287 (8 * o + p)), .int (nI (8 * o + p)), .ref 287] g1 := by
      intro g1 F1 X1
      have rg1 : ∀ w, rm g1 a w = rm h a w := fun w => by unfold rm; rw [F1.1 271 (by decide) (by decide)]
      obtain ⟨ry1, ry16⟩ := X1 (8 * o + p) (by omega)
      have e164 : ∀ y3 : Int32, y3 = nI (bw a) → lx_X9_wide 298 (tf_Cd 298 (d + 1)) Q 164 [.ref 270, .int x1, .int x2, .int (nI a), .int (nI (8 * p + o)), .int (nI (8 * o + p))] [.int y3, .int (g1.1 287 (8 * o + p)), .int (nI (8 * o + p)), .ref 287] g1 := by
        rintro y3 rfl
        refine go_X9_wide_164 (by decide) K (ny0 := 64) N (by decide) (sx_greater (d := d) _ _ _ (go_X9_wide_167 (by decide) K (ny0 := 64) N (by decide) ⟨vy, ?_⟩))
        unfold rf_gr
        rw [cy, ry1, (n_max (by omega) (by omega)).1, nI_1]
        refine xw_a H A q f (a + 1) (w1 g1 287 (8 * o + p) _) _ _ _ (by omega) (F1.w (by omega)) (X1.w (by omega)) (fun v p' o' hv hp' ho' => ?_)
        have Es : Ea tl hd fw bw (a + 1) v p' o' ↔ Ea tl hd fw bw a v p' o' ∨ (p = p' ∧ o = o' ∧ v ≤ fw a) ∨ (o = p' ∧ p = o' ∧ v ≤ bw a) := by
          constructor
          · rintro ⟨c, hc, e⟩
            by_cases ca : c = a
            · rw [ca, etl, ehd] at e
              exact Or.inr e
            · exact Or.inl ⟨c, by omega, e⟩
          · rintro (⟨c, hc, e⟩ | e)
            · exact ⟨c, by omega, e⟩
            · exact ⟨a, by omega, by rw [etl, ehd]; exact e⟩
        have Z0 := Z v p' o' hv hp' ho'
        rw [Es, ← Z0]
        unfold wup
        by_cases c2 : 8 * p' + o' = 8 * o + p
        · have q1 : p' = o := by omega
          have q2 : o' = p := by omega
          subst q1 q2
          rw [if_pos rfl, if_neg xy]
          constructor
          · intro w
            rcases Nat.le_total (rr (8 * p' + o')) (bw a) with y | y
            · rw [Nat.max_eq_right y] at w
              exact Or.inr (Or.inr ⟨rfl, rfl, w⟩)
            · rw [Nat.max_eq_left y] at w
              exact Or.inl w
          · rintro (w | ⟨w1, w2, -⟩ | ⟨-, -, w⟩)
            · exact Nat.le_trans w (Nat.le_max_left _ _)
            · omega
            · exact Nat.le_trans w (Nat.le_max_right _ _)
        · rw [if_neg c2]
          by_cases c1 : 8 * p' + o' = 8 * p + o
          · have q1 : p' = p := by omega
            have q2 : o' = o := by omega
            subst q1 q2
            rw [if_pos rfl]
            constructor
            · intro w
              rcases Nat.le_total (rr (8 * p' + o')) (fw a) with y | y
              · rw [Nat.max_eq_right y] at w
                exact Or.inr (Or.inl ⟨rfl, rfl, w⟩)
              · rw [Nat.max_eq_left y] at w
                exact Or.inl w
            · rintro (w | ⟨-, -, w⟩ | ⟨w1, w2, -⟩)
              · exact Nat.le_trans w (Nat.le_max_left _ _)
              · exact Nat.le_trans w (Nat.le_max_right _ _)
              · omega
          · rw [if_neg c1]
            constructor
            · exact fun w => Or.inl w
            · rintro (w | ⟨w1, w2, -⟩ | ⟨w1, w2, -⟩)
              · exact w
              · subst w1 w2
                exact absurd rfl c1
              · subst w1 w2
                exact absurd rfl c2
      refine go_X9_wide_150 (by decide) K (ny0 := 64) N (by decide) ⟨fun c => e164 _ ?_, fun c => go_X9_wide_158 (by decide) K (ny0 := 64) N (by decide) (s 4 4 g1 (by omega) rfl _ (e164 _ ?_))⟩
      · rw [rg1] at c
        rw [(bl c).2]
        rfl
      · rw [rg1] at c
        rw [rg1]
        exact (nb c).2
    have e126 : ∀ y3 : Int32, y3 = nI (fw a) → lx_X9_wide 298 (tf_Cd 298 (d + 1)) Q 126 [.ref 270, .int x1, .int x2, .int (nI a), .int (nI (8 * p + o)), .int (nI (8 * o + p))] [.int y3, .int (g.1 287 (8 * p + o)), .int (nI (8 * p + o)), .ref 287] g := by
      rintro y3 rfl
      refine go_X9_wide_126 (by decide) K (ny0 := 64) N (by decide) (sx_greater (d := d) _ _ _ (go_X9_wide_129 (by decide) K (ny0 := 64) N (by decide) ⟨vx, vy, ?_⟩))
      unfold rf_gr
      rw [cx, cy, rx, (n_max (by omega) (by omega)).1]
      exact s 6 6 (w1 g 287 (8 * p + o) (nI (max (rr (8 * p + o)) (fw a)))) (by omega) rfl _ (rest (w1 g 287 (8 * p + o) (nI (max (rr (8 * p + o)) (fw a)))) (F.w (by omega)) (X.w (by omega)))
    refine ⟨vx, s 6 6 g (by omega) rfl _ (go_X9_wide_105 (by decide) K (ny0 := 64) N (by decide) ⟨fun c => ?_, fun c => go_X9_wide_113 (by decide) K (ny0 := 64) N (by decide) (s 2 2 g (by omega) rfl _ (go_X9_wide_119 (by decide) K (ny0 := 64) N (by decide) (s 4 4 g (by omega) rfl _ (go_X9_wide_125 (by decide) K (ny0 := 64) N (by decide) ?_))))⟩)⟩
    · rw [rg] at c
      rw [cx]
      exact e126 0 (by rw [(bl c).1]; rfl)
    · rw [rg] at c
      rw [cx, rg, rg]
      exact e126 _ (nb c).1
theorem xw_i {m : Nat} (hm : m < 8) {E : Nat → Nat → Nat → Prop} {x1 x2 : Int32} {Q : tf_Q} (q : ∀ (x4 : Int32) (x5 : Value) (g : LH) (rr : Nat → Nat), ScF h g → MXr g rr → (∀ v p o, 1 ≤ v → p < 8 → o < 8 → fwp (E v) (m + 1) p o → v ≤ rr (8 * p + o)) → (∀ v p o, 1 ≤ v → p < 8 → o < 8 → v ≤ rr (8 * p + o) → fwp (E v) n p o) → lx_X9_wide 298 (tf_Cd 298 (d + 1)) Q 252 [.ref 270, .int x1, .int x2, .int (nI m), .int x4, x5] [] g) (mn : m < n) : ∀ (f j : Nat) (g : LH) (x5 : Value) (rr : Nat → Nat), j + f = 64 → ScF h g → MXr g rr → (∀ v p o, 1 ≤ v → p < 8 → o < 8 → fwp (E v) m p o → v ≤ rr (8 * p + o)) → (∀ v p o, 1 ≤ v → p < 8 → o < 8 → 8 * p + o < j → fwp (E v) (m + 1) p o → v ≤ rr (8 * p + o)) → (∀ v p o, 1 ≤ v → p < 8 → o < 8 → v ≤ rr (8 * p + o) → fwp (E v) n p o) → lx_X9_wide 298 (tf_Cd 298 (d + 1)) Q 189 [.ref 270, .int x1, .int x2, .int (nI m), .int (nI j), x5] [] g
  | 0, j, g, x5, rr, hj, F, X, C0, C1, So => by
    have e : j = 64 := by omega
    subst e
    exact go_X9_wide_189 (by decide) ⟨fun _ => q _ _ g rr F X (fun v p o hv hp ho z => C1 v p o hv hp ho (by omega) z) So, fun z => absurd (nI_le (a := 64) (b := 64) (by omega) (by omega)) z⟩
  | f + 1, j, g, x5, rr, hj, F, X, C0, C1, So => by
    have K : tf_K 287 = 8 := by decide +kernel
    have N : tf_N 287 = 64 := by decide +kernel
    have e1 : nI j / 8 * 8 + nI m = nI (8 * (j / 8) + m) := by
      rw [show (8 : Int32) = nI 8 from rfl, pk_div (by omega) (by omega) (by omega), nI_mul, nI_add, Nat.mul_comm]
    have e2 : (8 : Int32) * nI m + (nI j - nI j / 8 * 8) = nI (8 * m + j % 8) := by
      rw [show (8 : Int32) = nI 8 from rfl, pk_rem (by omega) (by omega) (by omega), nI_mul, nI_add]
    obtain ⟨r1, r16⟩ := X j (by omega)
    obtain ⟨r2, r26⟩ := X (8 * (j / 8) + m) (by omega)
    obtain ⟨r3, r36⟩ := X (8 * m + j % 8) (by omega)
    refine go_X9_wide_189 (by decide) ⟨fun z => absurd z (nI_ge (a := j) (b := 64) (by omega) (by omega)), fun _ => ?_⟩
    rw [e1, e2, nI_clamp (show 8 * (j / 8) + m < 2 ^ 31 by omega), nI_clamp (show 8 * m + j % 8 < 2 ^ 31 by omega), nI_clamp (show j < 2 ^ 31 by omega), r1, r2, r3]
    refine ⟨vi_of (by omega) (by omega), vi_of (by omega) (by omega), vi_of (by omega) (by omega), sx_lesser (d := d) _ _ _ (go_X9_wide_242 (by decide) K (ny0 := 64) N (by decide) (sx_greater (d := d) _ _ _ (go_X9_wide_245 (by decide) K (ny0 := 64) N (by decide) ⟨vi_of (by omega) (by omega), ?_⟩)))⟩
    have mi : min (rr (8 * (j / 8) + m)) (rr (8 * m + j % 8)) ≤ 1000000 := Nat.le_trans (Nat.min_le_left _ _) r26
    unfold rf_gr rf_le
    rw [(n_min (by omega) (by omega)).1, (n_max (by omega) (by omega)).1, nI_1, nI_clamp (show j < 2 ^ 31 by omega)]
    have sp : ∀ p o, p < 8 → o < 8 → 8 * p + o = j → p = j / 8 ∧ o = j % 8 := fun p o h1 h2 h3 => by omega
    refine xw_i hm q mn f (j + 1) (w1 g 287 j (nI (max (rr j) (min (rr (8 * (j / 8) + m)) (rr (8 * m + j % 8)))))) _ (wup rr j (max (rr j) (min (rr (8 * (j / 8) + m)) (rr (8 * m + j % 8))))) (by omega) (F.w (by omega)) (X.w (Nat.max_le.mpr ⟨r16, mi⟩)) (fun v p o hv hp ho z => ?_) (fun v p o hv hp ho hl z => ?_) (fun v p o hv hp ho z => ?_)
    · have := C0 v p o hv hp ho z
      unfold wup
      by_cases e : 8 * p + o = j
      · rw [if_pos e]
        rw [e] at this
        exact Nat.le_trans this (Nat.le_max_left _ _)
      · rw [if_neg e]
        exact this
    · unfold wup
      by_cases e : 8 * p + o = j
      · rw [if_pos e]
        obtain ⟨sp1, sp2⟩ := sp p o hp ho e
        rcases z with z | ⟨z1, z2⟩
        · have := C0 v p o hv hp ho z
          rw [e] at this
          exact Nat.le_trans this (Nat.le_max_left _ _)
        · have a1 := C0 v p m hv hp hm z1
          have a2 := C0 v m o hv hm ho z2
          rw [sp1] at a1
          rw [sp2] at a2
          exact Nat.le_trans (Nat.le_min.mpr ⟨a1, a2⟩) (Nat.le_max_right _ _)
      · rw [if_neg e]
        exact C1 v p o hv hp ho (by omega) z
    · unfold wup at z
      by_cases e : 8 * p + o = j
      · rw [if_pos e] at z
        obtain ⟨sp1, sp2⟩ := sp p o hp ho e
        rcases Nat.le_total (rr j) (min (rr (8 * (j / 8) + m)) (rr (8 * m + j % 8))) with y | y
        · rw [Nat.max_eq_right y] at z
          obtain ⟨z1, z2⟩ := Nat.le_min.mp z
          rw [← sp1] at z1
          rw [← sp2] at z2
          exact fwp_tr n mn (So v p m hv hp hm z1) (So v m o hv hm ho z2)
        · rw [Nat.max_eq_left y, ← e] at z
          exact So v p o hv hp ho z
      · rw [if_neg e] at z
        exact So v p o hv hp ho z
theorem xw_m (H : RM h n k) {E : Nat → Nat → Nat → Prop} {u w : Nat} (hu : u < 8) (hw : w < 8) {Q : tf_Q} (q : ∀ (g : LH) (rr : Nat → Nat), rr (8 * u + w) ≤ 1000000 → (∀ v, 1 ≤ v → (v ≤ rr (8 * u + w) ↔ fwp (E v) n u w)) → Q (.int (nI (rr (8 * u + w)))) g) : ∀ (f m : Nat) (g : LH) (x4 x5 : Value) (rr : Nat → Nat), m + f = n → ScF h g → MXr g rr → (∀ v p o, 1 ≤ v → p < 8 → o < 8 → fwp (E v) m p o → v ≤ rr (8 * p + o)) → (∀ v p o, 1 ≤ v → p < 8 → o < 8 → v ≤ rr (8 * p + o) → fwp (E v) n p o) → lx_X9_wide 298 (tf_Cd 298 (d + 1)) Q 176 [.ref 270, .int (nI u), .int (nI w), .int (nI m), x4, x5] [] g
  | 0, m, g, x4, x5, rr, hm, F, X, C0, So => by
    have hn := H.1
    have e : m = n := by omega
    subst e
    obtain ⟨r1, r2⟩ := X (8 * u + w) (by omega)
    have e8 : (8 : Int32) * nI u + nI w = nI (8 * u + w) := by rw [show (8 : Int32) = nI 8 from rfl, nI_mul, nI_add]
    refine go_X9_wide_176 (by decide) ⟨fun _ => go_X9_wide_258 (by decide) ?_, fun z => absurd ((H.sc F).n2 (by omega) (by omega)) z⟩
    rw [e8, nI_clamp (by omega), r1]
    exact ⟨vi_of (by omega) (by omega), q g rr r2 (fun v hv => ⟨So v u w hv hu hw, C0 v u w hv hu hw⟩)⟩
  | f + 1, m, g, x4, x5, rr, hm, F, X, C0, So => by
    have hn := H.1
    refine go_X9_wide_176 (by decide) ⟨fun z => absurd z ((H.sc F).n1 (by omega)), fun _ => xw_i (h := h) (n := n) (E := E) (by omega) (fun x4 x5 g2 rr2 F2 X2 D0 S2 => go_X9_wide_252 (by decide) ?_) (by omega) 64 0 g _ rr (by omega) F X C0 (fun v p o _ _ _ hl => absurd hl (by omega)) So⟩
    rw [nI_1]
    exact xw_m H hu hw q f (m + 1) g2 _ _ rr2 (by omega) F2 X2 D0 S2
end TIW
