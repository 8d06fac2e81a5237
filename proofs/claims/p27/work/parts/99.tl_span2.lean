/-! ===== span: REDUCED of each arc when one cost shifts ===== -/
section TLS
variable {h g r T T2 : LH} {t M d n k m x : Nat}
theorem bI_t {b : Bool} (h : b = true) : bI b = 1 := by rw [h]; rfl
theorem bI_f {b : Bool} (h : ¬ b = true) : bI b = 0 := by rw [Bool.eq_false_iff.mpr h]; rfl
/-- the class's tree and the laid one: what is on the way -/
theorem onw_iff (L : LT T n k) (C : CT h 0 T n) {w p : Nat} (hw : w < n) (hp : p < n) : nt_onw h 0 (nI w) n (nI p) = true ↔ owy T w p := by
  have := ct_onw L C (z := w) (Nat.le_of_lt hw) n p (Nat.le_of_lt hp) (L.dn (Nat.le_of_lt hp))
  rw [cI_lt hw, cI_lt hp] at this
  exact this
/-- REDUCED of the other arcs -/
theorem red_sh (L : LT T n k) (P : PR T n k) (C : CT h 0 T n) (S : TS T n k) (L2 : LT T2 n k) (P2 : PR T2 n k) (A : ∀ a, a < k → rm T a 0 ≠ rm T a 1) (R : RC T T2 n k) (E : TLe h 0 T n k) (Sr : SRe h 0 T k) (co : ∀ a, a < k → a ≠ x → rm T2 a 3 = rm T a 3) {D : Int32} (cx : rm T2 x 3 = rm T x 3 + D) (hx : x < k) {a : Nat} (ha : a < k) (no : h.1 (0 + 7) a ≠ 2) : rf_red T2 a = rf_red T a + nt_slope h 0 n (nI x) (nI a) * D := by
  have n7 := L.1.1.2.1
  have k14 := L.1.1.2.2
  have same := tree_rc L C S A L2 R
  obtain ⟨p, q, hp, hq, ep, eq⟩ := L.1.ends ha
  obtain ⟨px, qx, hpx, hqx, epx, eqx⟩ := L.1.ends hx
  have E1 := E.1 a ha
  have Ex := E.1 x hx
  rw [ep, eq] at E1
  rw [epx, eqx] at Ex
  obtain ⟨m1, m2, -⟩ := R.2 a ha
  have cl : ∀ y : Nat, y < 1000 → (nI y).toNatClampNeg = y := fun y hy => nI_clamp (by omega)
  have hang : h.1 (0 + 7) x = 2 ↔ rf_hangs T x = true := by
    unfold rf_hangs
    rcases Sr x hx with ⟨-, e7, -⟩ | ⟨-, e7, e5⟩
    · rw [e7]
      exact decide_eq_true_iff.symm
    · rw [e7, e5]
      exact ⟨fun z => absurd z (by decide), fun z => absurd z (by decide)⟩
  unfold rf_red nt_slope
  rw [m1, m2, ep, eq, cl p (by omega), cl q (by omega), cl x (by omega), cl a (by omega), E1.1, E1.2, Ex.1, Ex.2, cl qx (by omega)]
  by_cases z : h.1 (0 + 7) x = 2
  · rw [if_pos z]
    have ax : a ≠ x := fun y => no (by rw [y]; exact z)
    rw [co a ha ax]
    have EGx : EG T n k px qx (nI x) := Or.inr ⟨hqx, x, hx, rfl, hang.mp z, Or.inl ⟨epx, eqx⟩⟩
    obtain ⟨w, hw, ew⟩ := S px qx (nI x) hpx EGx
    have ce := (C qx hqx).2
    have eki : h.1 (0 + 9) qx = nI x ↔ T.1 282 qx = nI x := by
      rw [ce]
      have ek : eK (nI x) = nI x := eK_a (by omega)
      constructor
      · intro y
        exact eK_inj n7 k14 (by_ed L hqx) (Or.inl ⟨x, hx, rfl⟩) (y.trans ek.symm)
      · intro y
        rw [y, ek]
    have wat := (L.at hw).2.2.2.2.2
    have wends : rm T x 1 = nI w ∨ rm T x 0 = nI w := by
      rcases wat with ⟨-, e, -⟩ | ⟨-, c, hc, e, -, en⟩
      · rw [ew] at e
        have := (nI_eq (by omega) (by omega)).mp e
        omega
      · rw [ew] at e
        have := (nI_eq (by omega) (by omega)).mp e
        subst this
        rcases en with ⟨e1, -⟩ | ⟨e1, -⟩
        · exact Or.inr e1
        · exact Or.inl e1
    by_cases gd : h.1 (0 + 9) qx = nI x
    · -- it goes down to its head
      rw [if_pos gd]
      have wq : w = qx := by_inj L hw hqx (ew.trans (eki.mp gd).symm)
      subst wq
      have sh := pr_sh L P L2 P2 A R same co cx hw ew (Or.inl ⟨eqx, rfl⟩) hx
      have sp := sh (df T p) p (Nat.le_of_lt hp) (Nat.le_refl _)
      have sq := sh (df T q) q (Nat.le_of_lt hq) (Nat.le_refl _)
      have op := onw_iff L C hw hp
      have oq := onw_iff L C hw hq
      by_cases z1 : owy T w p <;> by_cases z2 : owy T w q
      · rw [bI_t (op.mpr z1), bI_t (oq.mpr z2), sp.1 z1, sq.1 z2]
        grind
      · rw [bI_t (op.mpr z1), bI_f (fun y => z2 (oq.mp y)), sp.1 z1, sq.2 z2]
        grind
      · rw [bI_f (fun y => z1 (op.mp y)), bI_t (oq.mpr z2), sp.2 z1, sq.1 z2]
        grind
      · rw [bI_f (fun y => z1 (op.mp y)), bI_f (fun y => z2 (oq.mp y)), sp.2 z1, sq.2 z2]
        grind
    · rw [if_neg gd]
      have wp : w = px := by
        rcases wends with y | y
        · rw [eqx] at y
          have : qx = w := (nI_eq (by omega) (by omega)).mp y
          rw [← this] at ew
          exact absurd (eki.mpr ew) gd
        · rw [epx] at y
          exact ((nI_eq (by omega) (by omega)).mp y).symm
      subst wp
      have sh := pr_sh L P L2 P2 A R same co cx hw ew (Or.inr ⟨epx, rfl⟩) hx
      have sp := sh (df T p) p (Nat.le_of_lt hp) (Nat.le_refl _)
      have sq := sh (df T q) q (Nat.le_of_lt hq) (Nat.le_refl _)
      have op := onw_iff L C hw hp
      have oq := onw_iff L C hw hq
      by_cases z1 : owy T w p <;> by_cases z2 : owy T w q
      · rw [bI_t (op.mpr z1), bI_t (oq.mpr z2), sp.1 z1, sq.1 z2]
        grind
      · rw [bI_t (op.mpr z1), bI_f (fun y => z2 (oq.mp y)), sp.1 z1, sq.2 z2]
        grind
      · rw [bI_f (fun y => z1 (op.mp y)), bI_t (oq.mpr z2), sp.2 z1, sq.1 z2]
        grind
      · rw [bI_f (fun y => z1 (op.mp y)), bI_f (fun y => z2 (oq.mp y)), sp.2 z1, sq.2 z2]
        grind
  · rw [if_neg z]
    have nx : ∀ p, p < n → T.1 282 p ≠ nI x := by
      intro p2 hp2 e
      rcases (L.at hp2).2.2.2.2.2 with ⟨-, e2, -⟩ | ⟨-, c, hc, e2, hh, -⟩
      · rw [e] at e2
        have := (nI_eq (by omega) (by omega)).mp e2
        omega
      · rw [e] at e2
        have := (nI_eq (by omega) (by omega)).mp e2
        rw [← this] at hh
        exact z (hang.mpr hh)
    have sh := pr_no L P L2 P2 A R same co nx
    rw [sh (df T p) p (Nat.le_of_lt hp) (Nat.le_refl _), sh (df T q) q (Nat.le_of_lt hq) (Nat.le_refl _)]
    by_cases ax : x = a
    · rw [if_pos (by rw [ax]), ← ax, cx]
      grind
    · rw [if_neg (fun y => ax ((nI_eq (by omega) (by omega)).mp y)), co a ha (fun y => ax y.symm)]
      grind
theorem slope_v (z : Int32) {b1 b2 : Bool} : z = bI b1 - bI b2 → z = 0 ∨ z = 1 ∨ z = -1 := by
  intro e
  rw [e]
  cases b1 <;> cases b2 <;> decide
theorem slope_in (y z : Int32) : nt_slope h 0 n y z = 0 ∨ nt_slope h 0 n y z = 1 ∨ nt_slope h 0 n y z = -1 := by
  unfold nt_slope
  split
  · split
    · exact slope_v _ rfl
    · exact slope_v _ rfl
  · split
    · exact Or.inr (Or.inl rfl)
    · exact Or.inl rfl
end TLS
