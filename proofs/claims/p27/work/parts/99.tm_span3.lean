/-! ===== span on both sides ===== -/
section TMS
variable {h g g1 h1 r T T2 : LH} {t M d n k m x : Nat}
/-- where the arc a bounds the cost of x -/
def bdv (h : LH) (n : Nat) (xx : Int32) (a : Nat) : Int32 := h.1 (0 + 5) xx.toNatClampNeg - nt_red h 0 (nI a) * nt_sl0 h 0 n xx a
theorem low_iff {xx : Int32} {y : Int} : ∀ (f a : Nat) (r : Int32), (nt_low h 0 n xx f a r).toInt ≤ y ↔ r.toInt ≤ y ∧ ∀ c, a ≤ c → c < a + f → nt_sl0 h 0 n xx c ≠ 0 → nt_side h 0 (nt_sl0 h 0 n xx c) c = true → (bdv h n xx c).toInt ≤ y
  | 0, a, r => by
    rw [nt_low]
    exact ⟨fun z => ⟨z, fun c h1 h2 => by omega⟩, fun z => z.1⟩
  | f + 1, a, r => by
    rw [nt_low, low_iff f (a + 1)]
    have sp : ∀ P : Nat → Prop, (∀ c, a ≤ c → c < a + (f + 1) → P c) ↔ P a ∧ ∀ c, a + 1 ≤ c → c < a + 1 + f → P c := fun P => ⟨fun z => ⟨z a (Nat.le_refl _) (by omega), fun c h1 h2 => z c (by omega) (by omega)⟩, fun z c h1 h2 => by
      by_cases e : c = a
      · rw [e]; exact z.1
      · exact z.2 c (by omega) (by omega)⟩
    rw [sp]
    unfold bdv
    by_cases c1 : nt_sl0 h 0 n xx a = 0
    · rw [if_pos c1]
      exact ⟨fun z => ⟨z.1, fun y => absurd c1 y, z.2⟩, fun z => ⟨z.1, z.2.2⟩⟩
    · rw [if_neg c1]
      by_cases c2 : nt_side h 0 (nt_sl0 h 0 n xx a) a = true
      · rw [if_pos c2]
        by_cases c3 : r < h.1 (0 + 5) xx.toNatClampNeg - nt_red h 0 (nI a) * nt_sl0 h 0 n xx a
        · rw [if_pos c3]
          have := Int32.lt_iff_toInt_lt.mp c3
          exact ⟨fun z => ⟨by omega, fun _ _ => z.1, z.2⟩, fun z => ⟨z.2.1 c1 c2, z.2.2⟩⟩
        · rw [if_neg c3]
          have := Int32.le_iff_toInt_le.mp (Int32.not_lt.mp c3)
          exact ⟨fun z => ⟨z.1, fun _ _ => by omega, z.2⟩, fun z => ⟨z.1, z.2.2⟩⟩
      · rw [if_neg c2]
        exact ⟨fun z => ⟨z.1, fun _ y => absurd y c2, z.2⟩, fun z => ⟨z.1, z.2.2⟩⟩
theorem high_iff {xx : Int32} {y : Int} : ∀ (f a : Nat) (r : Int32), y ≤ (nt_high h 0 n xx f a r).toInt ↔ y ≤ r.toInt ∧ ∀ c, a ≤ c → c < a + f → nt_sl0 h 0 n xx c ≠ 0 → nt_side h 0 (nt_sl0 h 0 n xx c) c = false → y ≤ (bdv h n xx c).toInt
  | 0, a, r => by
    rw [nt_high]
    exact ⟨fun z => ⟨z, fun c h1 h2 => by omega⟩, fun z => z.1⟩
  | f + 1, a, r => by
    rw [nt_high, high_iff f (a + 1)]
    have sp : ∀ P : Nat → Prop, (∀ c, a ≤ c → c < a + (f + 1) → P c) ↔ P a ∧ ∀ c, a + 1 ≤ c → c < a + 1 + f → P c := fun P => ⟨fun z => ⟨z a (Nat.le_refl _) (by omega), fun c h1 h2 => z c (by omega) (by omega)⟩, fun z c h1 h2 => by
      by_cases e : c = a
      · rw [e]; exact z.1
      · exact z.2 c (by omega) (by omega)⟩
    rw [sp]
    unfold bdv
    by_cases c1 : nt_sl0 h 0 n xx a = 0
    · rw [if_pos c1]
      exact ⟨fun z => ⟨z.1, fun y => absurd c1 y, z.2⟩, fun z => ⟨z.1, z.2.2⟩⟩
    · rw [if_neg c1]
      by_cases c2 : nt_side h 0 (nt_sl0 h 0 n xx a) a = true
      · rw [if_pos c2]
        exact ⟨fun z => ⟨z.1, fun _ y => (by rw [c2] at y; cases y), z.2⟩, fun z => ⟨z.1, z.2.2⟩⟩
      · rw [if_neg c2]
        by_cases c3 : h.1 (0 + 5) xx.toNatClampNeg - nt_red h 0 (nI a) * nt_sl0 h 0 n xx a < r
        · rw [if_pos c3]
          have := Int32.lt_iff_toInt_lt.mp c3
          exact ⟨fun z => ⟨by omega, fun _ _ => z.1, z.2⟩, fun z => ⟨z.2.1 c1 (Bool.eq_false_iff.mpr c2), z.2.2⟩⟩
        · rw [if_neg c3]
          have := Int32.le_iff_toInt_le.mp (Int32.not_lt.mp c3)
          exact ⟨fun z => ⟨z.1, fun _ _ => by omega, z.2⟩, fun z => ⟨z.1, z.2.2⟩⟩
/-- a row like h1's but for the cost of x, which is y -/
def RXk (h1 g1 : LH) (x : Nat) (y : Int32) : Prop := (∀ ix, ix < 170 → ix ≠ 72 + 7 * x + 3 → g1.1 271 ix = h1.1 271 ix) ∧ rm g1 x 3 = y
theorem RXk.rc {y : Int32} (R : RXk h1 g1 x y) (n7 : n ≤ 7) (k14 : k ≤ 14) (hx : x < k) : RC (lt h1 n k) (lt g1 n k) n k ∧ (∀ a, a < k → a ≠ x → rm (lt g1 n k) a 3 = rm (lt h1 n k) a 3) ∧ rm (lt g1 n k) x 3 = y ∧ ∀ a w, a < k → w < 7 → w ≠ 3 → rm (lt g1 n k) a w = rm (lt h1 n k) a w := by
  have e1 : (lt g1 n k).1 271 = g1.1 271 := lt_fl.r
  have e2 : (lt h1 n k).1 271 = h1.1 271 := lt_fl.r
  have er : ∀ a w, a < k → w < 7 → (w ≠ 3 ∨ a ≠ x) → rm (lt g1 n k) a w = rm (lt h1 n k) a w := fun a w ha hw h3 => by
    unfold rm
    rw [e1, e2]
    exact R.1 _ (by omega) (by omega)
  refine ⟨⟨fun p hp => ⟨by rw [e1, e2]; exact R.1 _ (by omega) (by omega), by rw [e1, e2]; exact R.1 _ (by omega) (by omega)⟩, fun a ha => ⟨er a 0 ha (by omega) (by omega), er a 1 ha (by omega) (by omega), ?_⟩⟩, fun a ha hax => er a 3 ha (by omega) (Or.inr hax), ?_, fun a w ha hw h3 => er a w ha hw (Or.inl h3)⟩
  · unfold rf_hangs
    rw [er a 5 ha (by omega) (by omega)]
  · have := R.2
    unfold rm at this ⊢
    rw [e1]
    exact this
/-- one arc: whether it offers, by the cost of x -/
theorem arc_iff (G : GI h1 n k M) (N : NR h 0 h1 n k m) (G2 : GI g1 n k M) {y : Int32} {cy : Nat} (hy : cy ≤ 198) (ey : y + 99 = nI cy) (R : RXk h1 g1 x y) (hx : x < k) {a : Nat} (ha : a < k) (B0 : rf_off (lt h1 n k) a = false) : rf_off (lt g1 n k) a = false ↔ (nt_sl0 h 0 n (nI x) a ≠ 0 → nt_side h 0 (nt_sl0 h 0 n (nI x) a) a = true → (bdv h n (nI x) a).toInt ≤ y.toInt) ∧ (nt_sl0 h 0 n (nI x) a ≠ 0 → nt_side h 0 (nt_sl0 h 0 n (nI x) a) a = false → y.toInt ≤ (bdv h n (nI x) a).toInt) := by
  have n7 := G.1.1.2.1
  have k14 := G.1.1.2.2
  obtain ⟨Rc, co, cx, er⟩ := R.rc n7 k14 hx
  obtain ⟨L, P, C, Pe, E, F, Co, S, GT⟩ := N.lay G
  have Ts := (N.2.1.to G.2.2.2.2.1.1 L P (fun i _ => by rw [lt_fl.r])).2.2
  have L2 := G2.lt
  have P2 := lt_pr G2.1
  obtain ⟨c0, hc0, ec0⟩ := GT.2.2.2.2.1.2.2.1 x hx
  have rb := red_bd L P GT.2.2.2.2.1.2.2.1 ha
  have rq := red_eq L E Co Pe ha
  have hc : h.1 (0 + 5) x = rm (lt h1 n k) x 3 := Co.1 x hx
  have F4 := (F.1 a ha).1
  have A := GT.2.2.2.2.1.1
  have sh := fun (no : h.1 (0 + 7) a ≠ 2) => red_sh L P C Ts L2 P2 A Rc E S co (D := y - rm (lt h1 n k) x 3) (by rw [cx]; grind) hx ha no
  have e6 := er a 6 ha (by omega) (by omega)
  have e5 := er a 5 ha (by omega) (by omega)
  have e2 := er a 2 ha (by omega) (by omega)
  have Sa := S a ha
  have sl := slope_in (h := h) (n := n) (nI x) (nI a)
  have yb := v99 hy ey
  have cb := v99 hc0 ec0
  generalize lt h1 n k = T at *
  generalize lt g1 n k = T2 at *
  have cxx : (nI x).toNatClampNeg = x := nI_clamp (by omega)
  have caa : (nI a).toNatClampNeg = a := nI_clamp (by omega)
  have no_may : nt_may h 0 (nI a) = false → rf_off T2 a = false → (rf_off T2 a = false ↔ (nt_sl0 h 0 n (nI x) a ≠ 0 → nt_side h 0 (nt_sl0 h 0 n (nI x) a) a = true → (bdv h n (nI x) a).toInt ≤ y.toInt) ∧ (nt_sl0 h 0 n (nI x) a ≠ 0 → nt_side h 0 (nt_sl0 h 0 n (nI x) a) a = false → y.toInt ≤ (bdv h n (nI x) a).toInt)) := by
    intro z1 z2
    have s0 : nt_sl0 h 0 n (nI x) a = 0 := by
      unfold nt_sl0
      rw [z1]
      rfl
    exact ⟨fun _ => ⟨fun w => absurd s0 w, fun w => absurd s0 w⟩, fun _ => z2⟩
  rcases Sa with ⟨s6, s7, s5⟩ | ⟨s6, s7, s5⟩
  · obtain ⟨j, hj, ej⟩ := vi_nI s5
    have c01 : ∀ j, j < 3 → (j = 0 ∧ nI j = 0) ∨ (j = 1 ∧ nI j = 1) ∨ (j = 2 ∧ nI j = 2) := by decide
    by_cases bp : rm T a 2 ≤ 0
    · refine no_may ?_ ?_
      · unfold nt_may
        rw [caa, F4]
        simp [bp]
      · unfold rf_off
        rw [e2]
        simp [bp]
    · have e0 : (0 : Int32).toInt = 0 := rfl
      have dI := sm_sub (x := y) (y := rm T x 3) (by omega) (by omega)
      have nd := neg_i (x := y - rm T x 3) (by omega)
      have nr := neg_i (x := rf_red T a) rb
      have s1 := sm_add (x := rf_red T a) (y := y - rm T x 3) rb (by omega)
      have s2 := sm_add (x := rf_red T a) (y := -(y - rm T x 3)) rb (by omega)
      have wide : -100000 - 198 ≤ (rf_red T a).toInt ∧ (rf_red T a).toInt ≤ 100000 + 198 := by omega
      have q1 : (rm T x 3 - rf_red T a).toInt = (rm T x 3).toInt - (rf_red T a).toInt := sm_sub (by omega) rb
      have q2 : (rm T x 3 - -rf_red T a).toInt = (rm T x 3).toInt + (rf_red T a).toInt := by
        rw [sm_sub (by omega) (by omega), nr]
        omega
      have i1 : ((1 : Int32) ≤ 0) = False := by decide
      rcases c01 j hj with ⟨-, j0⟩ | ⟨-, j1⟩ | ⟨-, j2⟩
      · rw [ej, j0] at s7 s5
        rw [ej, j0] at e5
        have ej0 : rm T a 5 = 0 := ej.trans j0
        have may : nt_may h 0 (nI a) = true := by
          unfold nt_may
          rw [caa, F4, s7]
          simp [bp]
        have b0 : 0 ≤ (rf_red T a).toInt := by
          unfold rf_off at B0
          simp only [s6, ej0, bp, decide_true, decide_false, Bool.not_false, Bool.true_and, Bool.or_eq_false_iff, decide_eq_false_iff_not] at B0
          have := B0.1
          rw [Int32.lt_iff_toInt_lt, e0] at this
          omega
        have lhs : rf_off T2 a = false ↔ 0 ≤ (rf_red T2 a).toInt := by
          unfold rf_off
          rw [e6, e5, e2]
          simp only [s6, bp, decide_true, decide_false, Bool.not_false, Bool.true_and, Bool.or_eq_false_iff, decide_eq_false_iff_not, show ¬ (0 : Int32) = 1 by decide, Bool.false_and, and_true]
          rw [Int32.lt_iff_toInt_lt, e0]
          omega
        rw [lhs, sh (by rw [s7]; decide)]
        unfold nt_sl0 nt_side bdv nt_sl0
        rw [may, if_pos rfl, s7, cxx, hc, rq]
        rcases sl with z | z | z
        · rw [z, Int32.zero_mul, Int32.add_zero]
          exact ⟨fun _ => ⟨fun w => absurd rfl w, fun w => absurd rfl w⟩, fun _ => b0⟩
        · rw [z, Int32.one_mul, Int32.mul_one, s1, q1, dI]
          simp only [i1, if_true, if_false, decide_true]
          constructor
          · intro w
            exact ⟨fun _ _ => by omega, fun _ v => by cases v⟩
          · intro w
            have := w.1 (by decide) trivial
            omega
        · rw [z, Int32.neg_mul, Int32.one_mul, Int32.mul_neg, Int32.mul_one, s2, q2, nd, dI]
          constructor
          · intro w
            exact ⟨fun _ v => absurd v (by decide), fun _ _ => by omega⟩
          · intro w
            have := w.2 (by decide) (by decide)
            omega
      · rw [ej, j1] at s7 s5
        rw [ej, j1] at e5
        have ej0 : rm T a 5 = 1 := ej.trans j1
        have may : nt_may h 0 (nI a) = true := by
          unfold nt_may
          rw [caa, F4, s7]
          simp [bp]
        have b0 : (rf_red T a).toInt ≤ 0 := by
          unfold rf_off at B0
          simp only [s6, ej0, bp, decide_true, decide_false, Bool.not_false, Bool.true_and, Bool.or_eq_false_iff, decide_eq_false_iff_not, show ¬ (1 : Int32) = 0 by decide, Bool.false_and, true_and, Bool.not_eq_false', decide_eq_true_eq] at B0
          have := Int32.le_iff_toInt_le.mp B0
          omega
        have lhs : rf_off T2 a = false ↔ (rf_red T2 a).toInt ≤ 0 := by
          unfold rf_off
          rw [e6, e5, e2]
          simp only [s6, bp, decide_true, decide_false, Bool.not_false, Bool.true_and, Bool.or_eq_false_iff, decide_eq_false_iff_not, show ¬ (1 : Int32) = 0 by decide, Bool.false_and, true_and, Bool.not_eq_false', decide_eq_true_eq]
          rw [Int32.le_iff_toInt_le, e0]
        rw [lhs, sh (by rw [s7]; decide)]
        unfold nt_sl0 nt_side bdv nt_sl0
        rw [may, if_pos rfl, s7, cxx, hc, rq]
        rcases sl with z | z | z
        · rw [z, Int32.zero_mul, Int32.add_zero]
          exact ⟨fun _ => ⟨fun w => absurd rfl w, fun w => absurd rfl w⟩, fun _ => b0⟩
        · rw [z, Int32.one_mul, Int32.mul_one, s1, q1, dI]
          constructor
          · intro w
            exact ⟨fun _ v => absurd v (by decide), fun _ _ => by omega⟩
          · intro w
            have := w.2 (by decide) (by decide)
            omega
        · rw [z, Int32.neg_mul, Int32.one_mul, Int32.mul_neg, Int32.mul_one, s2, q2, nd, dI]
          constructor
          · intro w
            exact ⟨fun _ _ => by omega, fun _ v => absurd v (by decide)⟩
          · intro w
            have := w.1 (by decide) (by decide)
            omega
      · rw [ej, j2] at s7 e5
        refine no_may ?_ ?_
        · unfold nt_may
          rw [caa, s7]
          simp
        · unfold rf_off
          rw [e5]
          simp
  · refine no_may ?_ ?_
    · unfold nt_may
      rw [caa, s7]
      simp
    · unfold rf_off
      rw [e6, s6]
      simp
end TMS
