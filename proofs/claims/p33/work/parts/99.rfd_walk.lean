/-! ===== the cycle of a pivot is walked round, and each point keeps what it gives ===== -/
section VBW
variable {h g g1 T r : LH} {n k M d : Nat}
theorem bI_z {b : Bool} : bI b = 0 ↔ b = false := by
  cases b <;> decide
/-- a step up the tree, and a step down -/
theorem go_up (L : LT T n k) (A : ∀ a, a < k → rm T a 0 ≠ rm T a 1) (W : ∀ p, p < n → T.1 271 (58 + p) = 1 ∨ T.1 271 (58 + p) = -1) {C : LH} (eC : C.1 271 = T.1 271) {m q : Nat} (hq : q < n) (e5 : C.1 285 m = T.1 282 q) (e6 : C.1 286 m = bI (rf_al T (T.1 282 q) (nI q))) : GO C n k m q (uf T q) := by
  have n7 := L.1.1.2.1
  have k14 := L.1.1.2.2
  have rr : ∀ b w, rm C b w = rm T b w := fun b w => by unfold rm; rw [eC]
  unfold GO
  rw [e5, e6, eC]
  rcases (L.at hq).2.2.2.2.2 with ⟨en, e, -⟩ | ⟨hu, a, ha, e, -, ends⟩
  · refine Or.inr ⟨q, hq, e, W q hq, Or.inl ⟨rfl, en, ?_⟩⟩
    rw [e, bI_z]
    unfold rf_al
    have s0 : (58 + nI (100 + q) - 100 : Int32).toNatClampNeg = 58 + q := by
      rw [show (58 : Int32) = nI 58 from rfl, loan_ix, nI_clamp (by omega)]
    have nn : ¬ nI q = nI n := fun z => absurd ((nI_eq (by omega) (by omega)).mp z) (by omega)
    rw [if_pos (loan_p (by omega)), s0, L.1.2.1, decide_eq_false nn]
    rcases W q hq with w | w
    · rw [w]
      decide
    · rw [w]
      decide
  · refine Or.inl ⟨a, ha, e, ?_⟩
    rw [e]
    unfold rf_al
    rw [if_neg (by rw [loan_a (by omega)]; decide), nI_clamp (by omega), ne_eq, bI_z]
    unfold tlv hdv
    rw [rr, rr]
    have ne := A a ha
    rcases ends with ⟨m1, m2⟩ | ⟨m1, m2⟩
    · refine Or.inl ⟨?_, ?_, ?_⟩
      · rw [decide_eq_true m1]
        decide
      · rw [m1, nI_clamp (by omega)]
      · rw [m2, nI_clamp (by omega)]
    · refine Or.inr ⟨?_, ?_, ?_⟩
      · exact decide_eq_false (fun z => ne (z.trans m1.symm))
      · rw [m1, nI_clamp (by omega)]
      · rw [m2, nI_clamp (by omega)]
theorem go_dn (L : LT T n k) (A : ∀ a, a < k → rm T a 0 ≠ rm T a 1) (W : ∀ p, p < n → T.1 271 (58 + p) = 1 ∨ T.1 271 (58 + p) = -1) {C : LH} (eC : C.1 271 = T.1 271) {m q : Nat} (hq : q < n) (e5 : C.1 285 m = T.1 282 q) (e6 : C.1 286 m = bI (rf_al T (T.1 282 q) (T.1 281 q))) : GO C n k m (uf T q) q := by
  have n7 := L.1.1.2.1
  have k14 := L.1.1.2.2
  have rr : ∀ b w, rm C b w = rm T b w := fun b w => by unfold rm; rw [eC]
  unfold GO
  rw [e5, e6, eC, (L.at hq).1]
  rcases (L.at hq).2.2.2.2.2 with ⟨en, e, -⟩ | ⟨hu, a, ha, e, -, ends⟩
  · refine Or.inr ⟨q, hq, e, W q hq, Or.inr ⟨en, rfl, ?_⟩⟩
    rw [e, bI_z, en]
    unfold rf_al
    have s0 : (58 + nI (100 + q) - 100 : Int32).toNatClampNeg = 58 + q := by
      rw [show (58 : Int32) = nI 58 from rfl, loan_ix, nI_clamp (by omega)]
    rw [if_pos (loan_p (by omega)), s0, L.1.2.1, decide_eq_true rfl]
    rcases W q hq with w | w
    · rw [w]
      decide
    · rw [w]
      decide
  · refine Or.inl ⟨a, ha, e, ?_⟩
    rw [e]
    unfold rf_al
    rw [if_neg (by rw [loan_a (by omega)]; decide), nI_clamp (by omega), ne_eq, bI_z]
    unfold tlv hdv
    rw [rr, rr]
    have ne := A a ha
    rcases ends with ⟨m1, m2⟩ | ⟨m1, m2⟩
    · refine Or.inr ⟨?_, ?_, ?_⟩
      · exact decide_eq_false (fun z => ne (z.trans m2.symm))
      · rw [m2, nI_clamp (by omega)]
      · rw [m1, nI_clamp (by omega)]
    · refine Or.inl ⟨?_, ?_, ?_⟩
      · rw [decide_eq_true m2]
        decide
      · rw [m2, nI_clamp (by omega)]
      · rw [m1, nI_clamp (by omega)]
/-- the points one after another -/
def nu (T : LH) (x y m : Nat) : Nat := if m ≤ df T x - df T (lc_z T x y) then tw T (df T x - df T (lc_z T x y) - m) x else tw T (m - (df T x - df T (lc_z T x y)) - 1) y
theorem lc_go (L : LT T n k) (A : ∀ a, a < k → rm T a 0 ≠ rm T a 1) (W : ∀ p, p < n → T.1 271 (58 + p) = 1 ∨ T.1 271 (58 + p) = -1) {a x y : Nat} (ha : a < k) (hx : x < n) (hy : y < n) (ex : (if rm T a 5 = 0 then rm T a 0 else rm T a 1) = nI x) (ey : (if rm T a 5 = 0 then rm T a 1 else rm T a 0) = nI y) {m : Nat} (hm : m < lc_n T x y) : GO (lc T a x y) n k m (nu T x y m) (nu T x y (m + 1)) := by
  have n7 := L.1.1.2.1
  have k14 := L.1.1.2.2
  have eC := lc_271 L ha (Nat.le_of_lt hx) (Nat.le_of_lt hy) (a := a) (x := x) (y := y)
  have pos := lc_pos (g := T) (a := a) (x := x) (y := y) hm
  have fl := lc_286 L ha (Nat.le_of_lt hx) (Nat.le_of_lt hy) hm
  have al := lc_al (g := T) (a := a) (x := x) (y := y) (by omega)
  obtain ⟨I, J, eI, eJ, hI, hJ, -, -⟩ := lc_branch L (Nat.le_of_lt hx) (Nat.le_of_lt hy)
  unfold nu
  rw [eI] at pos fl al ⊢
  rw [eJ] at pos
  rcases pos with ⟨p1, p2⟩ | ⟨p1, p2⟩ | ⟨j0, p1, p2, p3⟩
  · have tq := L.tu (I - 1 - m) x (Nat.le_of_lt hx) (by omega)
    have hq := L.lt tq.1 (by omega)
    rw [if_pos (by omega), if_pos (by omega), show I - m = I - 1 - m + 1 by omega, tw_succ, show I - (m + 1) = I - 1 - m by omega]
    exact go_dn L A W eC hq p2 (fl.1 p1)
  · rw [if_pos (by omega), if_neg (by omega), show I - m = 0 by omega, show m + 1 - I - 1 = 0 by omega]
    show GO _ n k m x y
    rw [← p1] at al
    unfold GO
    refine Or.inl ⟨a, ha, p2, ?_⟩
    rw [al, ne_eq, bI_z]
    have rr : ∀ b w, rm (lc T a x y) b w = rm T b w := fun b w => by unfold rm; rw [eC]
    unfold tlv hdv
    rw [rr, rr]
    have ne := A a ha
    by_cases c : rm T a 5 = 0
    · rw [if_pos c] at ex ey
      rw [ex, ey, nI_clamp (by omega), nI_clamp (by omega)]
      exact Or.inl ⟨by rw [decide_eq_true rfl]; decide, rfl, rfl⟩
    · rw [if_neg c] at ex ey
      rw [ex, ey, nI_clamp (by omega), nI_clamp (by omega)]
      exact Or.inr ⟨decide_eq_false (fun z => ne (by rw [ex, ey, z])), rfl, rfl⟩
  · have tq := L.tu j0 y (Nat.le_of_lt hy) (by omega)
    have hq := L.lt tq.1 (by omega)
    rw [if_neg (by omega), if_neg (by omega), show m - I - 1 = j0 by omega, show m + 1 - I - 1 = j0 + 1 by omega, tw_succ]
    exact go_up L A W eC hq p3 (fl.2 j0 p1)
theorem cq_tn3 (L : LT T n k) (A : ∀ a, a < k → rm T a 0 ≠ rm T a 1) (W : ∀ p, p < n → T.1 271 (58 + p) = 1 ∨ T.1 271 (58 + p) = -1) {a x y p : Nat} (ha : a < k) (hx : x < n) (hy : y < n) (ex : (if rm T a 5 = 0 then rm T a 0 else rm T a 1) = nI x) (ey : (if rm T a 5 = 0 then rm T a 1 else rm T a 0) = nI y) (hp : p < n) : cq (tn3 T a x y) k p = cq T k p := by
  have n7 := L.1.1.2.1
  have k14 := L.1.1.2.2
  have eC := lc_271 L ha (Nat.le_of_lt hx) (Nat.le_of_lt hy) (a := a) (x := x) (y := y)
  unfold tn3
  rw [cq_fls (ν := nu T x y) n7 k14 hp (lc_n T x y) 0 (lc T a x y) (fun m _ hm => lc_go L A W ha hx hy ex ey (by omega))]
  obtain ⟨I, J, eI, eJ, hI, hJ, eq, -⟩ := lc_branch L (Nat.le_of_lt hx) (Nat.le_of_lt hy)
  have closed : nu T x y 0 = nu T x y (0 + lc_n T x y) := by
    unfold nu lc_n
    rw [eI, eJ, if_pos (by omega), if_neg (by omega), show I - 0 = I by omega, show 0 + (I + 1 + J) - I - 1 = J by omega]
    exact eq
  have same : cq (lc T a x y) k p = cq T k p := by
    unfold cq tlv hdv rm
    rw [eC]
  rw [same, closed]
  grind
end VBW
