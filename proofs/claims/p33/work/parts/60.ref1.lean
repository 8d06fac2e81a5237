/-! ===== the reference: one row of numbers (cell 271) ===== -/
section RF
variable {h : LH} {d : Nat}
def rf_in (x l u : Int32) : Bool := !decide (x < l) && !decide (u < x)
theorem sx_in (x l u : Int32) : tf_Rt (d + 1) 0 [.int x, .int l, .int u] h (.int (bI (rf_in x l u))) h := by
  intro Q q
  refine en_X9_in (by decide) (go_X9_in_0 (by decide) ⟨fun c => go_X9_in_14 (by decide) (go_X9_in_15 (by decide) ⟨rfl, ?_⟩), fun c => ⟨fun c2 => go_X9_in_14 (by decide) (go_X9_in_15 (by decide) ⟨rfl, ?_⟩), fun c2 => go_X9_in_15 (by decide) ⟨rfl, ?_⟩⟩⟩)
  · simpa [rf_in, c, bI] using q
  · simpa [rf_in, c, c2, bI] using q
  · simpa [rf_in, c, c2, bI] using q
def rf_le (x y : Int32) : Int32 := if y ≤ x then y else x
def rf_gr (x y : Int32) : Int32 := if x ≤ y then y else x
theorem sx_lesser (x y : Int32) : tf_Rt (d + 1) 1 [.int x, .int y] h (.int (rf_le x y)) h := fun Q q => en_X9_lesser (by decide) (go_X9_lesser_0 (by decide) ⟨fun c => go_X9_lesser_9 (by decide) (go_X9_lesser_10 (by decide) (by rw [rf_le, if_pos c] at q; exact q)), fun c => go_X9_lesser_10 (by decide) (by rw [rf_le, if_neg c] at q; exact q)⟩)
theorem sx_greater (x y : Int32) : tf_Rt (d + 1) 2 [.int x, .int y] h (.int (rf_gr x y)) h := fun Q q => en_X9_greater (by decide) (go_X9_greater_0 (by decide) ⟨fun c => go_X9_greater_9 (by decide) (go_X9_greater_10 (by decide) (by rw [rf_gr, if_pos c] at q; exact q)), fun c => go_X9_greater_10 (by decide) (by rw [rf_gr, if_neg c] at q; exact q)⟩)
/-- arc a's number w -/
def rm (h : LH) (a w : Nat) : Int32 := h.1 271 (72 + 7 * a + w)
theorem rm_ix {a w : Nat} : (72 : Int32) + 7 * nI a + nI w = nI (72 + 7 * a + w) := by
  rw [show (7 : Int32) = nI 7 from rfl, show (72 : Int32) = nI 72 from rfl, nI_mul, nI_add, nI_add]
theorem sx_of {x y : Int32} (a w : Nat) (hx : x = nI a) (hy : y = nI w) (ha : a < 14) (hw : w < 7) : tf_Rt (d + 1) 3 [.ref 270, .int x, .int y] h (.int (rm h a w)) h := by
  subst hx hy
  intro Q q
  refine en_X9_of (by decide) (go_X9_of_0 (by decide) ?_)
  rw [rm_ix, nI_clamp (by omega)]
  exact ⟨vi_of (by omega) (by omega), q⟩
def rp (h : LH) (a w : Nat) (v : Int32) : LH := w1 h 271 (72 + 7 * a + w) v
theorem sx_puts {x y : Int32} (a w : Nat) (v : Int32) (hx : x = nI a) (hy : y = nI w) (ha : a < 14) (hw : w < 7) : tf_Rt (d + 1) 4 [.ref 270, .int x, .int y, .int v] h tf_z (rp h a w v) := by
  subst hx hy
  intro Q q
  refine en_X9_puts (by decide) (go_X9_puts_0 (by decide) ?_)
  rw [rm_ix, nI_clamp (by omega)]
  exact ⟨vi_of (by omega) (by omega), q⟩
def rf_isArc (h : LH) (x : Int32) : Bool := rf_in x 0 (h.1 271 1 - 1)
def rf_isPt (h : LH) (x : Int32) : Bool := rf_in x 0 (h.1 271 0 - 1)
theorem sx_risArc (x : Int32) : tf_Rt (d + 2) 5 [.ref 270, .int x] h (.int (bI (rf_isArc h x))) h := fun _ q => en_X9_isArc (by decide) (go_X9_isArc_0 (by decide) (sx_in _ _ _ _ (go_X9_isArc_13 (by decide) ⟨bI_nar _, q⟩)))
theorem sx_risPt (x : Int32) : tf_Rt (d + 2) 6 [.ref 270, .int x] h (.int (bI (rf_isPt h x))) h := fun _ q => en_X9_isPoint (by decide) (go_X9_isPoint_0 (by decide) (sx_in _ _ _ _ (go_X9_isPoint_13 (by decide) ⟨bI_nar _, q⟩)))
def rf_two (h : LH) (x y : Int32) : Bool := rf_isPt h x && (rf_isPt h y && !decide (x = y))
theorem sx_rtwo (x y : Int32) : tf_Rt (d + 3) 7 [.ref 270, .int x, .int y] h (.int (bI (rf_two h x y))) h := by
  intro Q q
  refine en_X9_areTwo (by decide) (go_X9_areTwo_0 (by decide) (sx_risPt x _ (go_X9_areTwo_5 (by decide) ⟨fun c => go_X9_areTwo_25 (by decide) (go_X9_areTwo_26 (by decide) ⟨rfl, ?_⟩), fun c => sx_risPt y _ (go_X9_areTwo_13 (by decide) ⟨fun c2 => go_X9_areTwo_25 (by decide) (go_X9_areTwo_26 (by decide) ⟨rfl, ?_⟩), fun c2 => ⟨fun c3 => go_X9_areTwo_25 (by decide) (go_X9_areTwo_26 (by decide) ⟨rfl, ?_⟩), fun c3 => go_X9_areTwo_26 (by decide) ⟨rfl, ?_⟩⟩⟩)⟩)))
  · rw [bI_0] at c
    simpa [rf_two, c, bI] using q
  · rw [bI_0] at c c2
    simpa [rf_two, c, c2, bI] using q
  · rw [bI_0] at c c2
    simpa [rf_two, c, c2, c3, bI] using q
  · rw [bI_0, Bool.not_eq_false] at c c2
    simpa [rf_two, c, c2, c3, bI] using q
theorem sx_root : tf_Rt (d + 1) 26 [.ref 270] h (.int (h.1 271 0)) h := fun _ q => en_X9_root (by decide) (go_X9_root_0 (by decide) q)
def rf_loan (x : Int32) : Bool := !decide (x < 100)
theorem sx_isLoan (x : Int32) : tf_Rt (d + 1) 27 [.int x] h (.int (bI (rf_loan x))) h := by
  intro Q q
  refine en_X9_isLoan (by decide) (go_X9_isLoan_0 (by decide) ⟨fun c => go_X9_isLoan_10 (by decide) (go_X9_isLoan_11 (by decide) ⟨rfl, ?_⟩), fun c => go_X9_isLoan_11 (by decide) ⟨rfl, ?_⟩⟩)
  · simpa [rf_loan, c, bI] using q
  · simpa [rf_loan, c, bI] using q
def rf_hangs (h : LH) (a : Nat) : Bool := decide (rm h a 5 = 2)
theorem sx_hangs {x : Int32} (a : Nat) (hx : x = nI a) (ha : a < 14) : tf_Rt (d + 2) 28 [.ref 270, .int x] h (.int (bI (rf_hangs h a))) h := by
  intro Q q
  refine en_X9_hangs (by decide) (go_X9_hangs_0 (by decide) (sx_of a 5 hx rfl ha (by omega) _ (go_X9_hangs_6 (by decide) ⟨fun c => go_X9_hangs_15 (by decide) ⟨rfl, ?_⟩, fun c => go_X9_hangs_14 (by decide) (go_X9_hangs_15 (by decide) ⟨rfl, ?_⟩)⟩)))
  · simpa [rf_hangs, c, bI] using q
  · simpa [rf_hangs, c, bI] using q
/-- the reference's ranges: points, arcs, ends -/
def RM (h : LH) (n k : Nat) : Prop := (2 ≤ n ∧ n ≤ 7 ∧ k ≤ 14) ∧ h.1 271 0 = nI n ∧ h.1 271 1 = nI k ∧ (∀ a, a < k → vp_in (rm h a 0) n ∧ vp_in (rm h a 1) n)
theorem RM.fr {n k a : Nat} (H : RM h n k) (ha : a < k) : vp_in (rm h a 0) 8 ∧ vp_in (rm h a 1) 8 := ⟨vi_mono (H.2.2.2 a ha).1 (by have := H.1; omega), vi_mono (H.2.2.2 a ha).2 (by have := H.1; omega)⟩
def rf_red (h : LH) (a : Nat) : Int32 := rm h a 3 + h.1 284 (rm h a 0).toNatClampNeg - h.1 284 (rm h a 1).toNatClampNeg
theorem sx_rred {n k : Nat} (H : RM h n k) {x : Int32} (a : Nat) (hx : x = nI a) (ha : a < k) : tf_Rt (d + 2) 31 [.ref 270, .int x] h (.int (rf_red h a)) h := by
  have h14 : a < 14 := by have := H.1; omega
  have K : tf_K 284 = 8 := by decide +kernel
  have N : tf_N 284 = 8 := by decide +kernel
  exact fun Q q => en_X9_reduced (by decide) (go_X9_reduced_0 (by decide) (sx_of a 3 hx rfl h14 (by omega) _ (go_X9_reduced_6 (by decide) (sx_of a 0 hx rfl h14 (by omega) _ (go_X9_reduced_16 (by decide) K (ny1 := 8) N (by decide) ⟨(H.fr ha).1, sx_of a 1 hx rfl h14 (by omega) _ (go_X9_reduced_28 (by decide) K (ny1 := 8) N (by decide) ⟨(H.fr ha).2, q⟩)⟩)))))
def rf_off (h : LH) (a : Nat) : Bool := decide (rm h a 6 = 0) && (!decide (rm h a 2 ≤ 0) && ((decide (rm h a 5 = 0) && decide (rf_red h a < 0)) || (decide (rm h a 5 = 1) && !decide (rf_red h a ≤ 0))))
theorem sx_roff {n k : Nat} (H : RM h n k) {x : Int32} (a : Nat) (hx : x = nI a) (ha : a < k) : tf_Rt (d + 3) 32 [.ref 270, .int x] h (.int (bI (rf_off h a))) h := by
  have h14 : a < 14 := by have := H.1; omega
  intro Q q
  have e56 : ∀ y : Int32, rf_off h a = false → lx_X9_offers 298 (tf_Cd 298 (d + 2)) Q 56 [.ref 270, .int x, .int y] [] h := fun y e => go_X9_offers_56 (by decide) (go_X9_offers_57 (by decide) ⟨rfl, by rw [e] at q; exact q⟩)
  have e52 : ∀ y : Int32, rf_off h a = true → lx_X9_offers 298 (tf_Cd 298 (d + 2)) Q 52 [.ref 270, .int x, .int y] [] h := fun y e => go_X9_offers_52 (by decide) (go_X9_offers_57 (by decide) ⟨rfl, by rw [e] at q; exact q⟩)
  have e38 : rm h a 6 = 0 → ¬ rm h a 2 ≤ 0 → ¬ (rm h a 5 = 0 ∧ rf_red h a < 0) → lx_X9_offers 298 (tf_Cd 298 (d + 2)) Q 38 [.ref 270, .int x, .int (rf_red h a)] [] h := by
    intro c1 c2 c3
    have c3' : (decide (rm h a 5 = 0) && decide (rf_red h a < 0)) = false := by
      by_cases z : rm h a 5 = 0
      · have : ¬ rf_red h a < 0 := fun z2 => c3 ⟨z, z2⟩
        simp [z, this]
      · simp [z]
    refine go_X9_offers_38 (by decide) (sx_of a 5 hx rfl h14 (by omega) _ (go_X9_offers_44 (by decide) ⟨fun c4 => ⟨fun c5 => e56 _ ?_, fun c5 => e52 _ ?_⟩, fun c4 => e56 _ ?_⟩))
    · simp [rf_off, c1, c2, c3', c4, c5]
    · simp [rf_off, c1, c2, c3', c4, c5]
    · simp [rf_off, c1, c2, c3', c4]
  refine en_X9_offers (by decide) (go_X9_offers_0 (by decide) (sx_rred H a hx ha _ (go_X9_offers_5 (by decide) (sx_of a 6 hx rfl h14 (by omega) _ (go_X9_offers_13 (by decide) ⟨fun c1 => sx_of a 2 hx rfl h14 (by omega) _ (go_X9_offers_22 (by decide) ⟨fun c2 => e56 _ ?_, fun c2 => sx_of a 5 hx rfl h14 (by omega) _ (go_X9_offers_31 (by decide) ⟨fun c3 => ⟨fun c4 => e52 _ ?_, fun c4 => e38 c1 c2 (fun z => c4 z.2)⟩, fun c3 => e38 c1 c2 (fun z => c3 z.1)⟩)⟩), fun c1 => e56 _ ?_⟩)))))
  · simp [rf_off, c1, c2]
  · simp [rf_off, c1, c2, c3, c4]
  · simp [rf_off, c1]
def rf_many (h : LH) : Nat → Nat → Int32 → Int32
  | 0, _, s => s
  | f + 1, a, s => rf_many h f (a + 1) (s + (if rf_off h a = true then 1 else 0))
theorem sx_manyL {n k : Nat} (H : RM h n k) {Q : tf_Q} : ∀ (f a : Nat) (s : Int32), a + f = k → Q (.int (rf_many h f a s)) h → lx_X9_offerMany 298 (tf_Cd 298 (d + 3)) Q 4 [.ref 270, .int s, .int (nI a)] [] h
  | 0, a, s, ha, q => by
    have hk := H.1
    refine go_X9_offerMany_4 (by decide) ⟨fun _ => go_X9_offerMany_36 (by decide) q, fun z => absurd ?_ z⟩
    show h.1 271 1 ≤ nI a
    rw [H.2.2.1]
    exact nI_le (by omega) (by omega)
  | f + 1, a, s, ha, q => by
    have hk := H.1
    rw [rf_many] at q
    refine go_X9_offerMany_4 (by decide) ⟨fun z => ?_, fun _ => sx_roff H a rfl (by omega) _ (go_X9_offerMany_20 (by decide) ⟨fun c => go_X9_offerMany_27 (by decide) (go_X9_offerMany_28 (by decide) ?_), fun c => go_X9_offerMany_28 (by decide) ?_⟩)⟩
    · have z2 : h.1 271 1 ≤ nI a := z
      rw [H.2.2.1] at z2
      exact absurd z2 (nI_ge (by omega) (by omega))
    · rw [bI_0] at c
      rw [nI_1]
      rw [c] at q
      exact sx_manyL H f (a + 1) _ (by omega) q
    · rw [bI_0, Bool.not_eq_false] at c
      rw [nI_1]
      rw [c] at q
      exact sx_manyL H f (a + 1) _ (by omega) q
theorem sx_many {n k : Nat} (H : RM h n k) : tf_Rt (d + 4) 34 [.ref 270] h (.int (rf_many h k 0 0)) h := fun _ q => en_X9_offerMany (by decide) (go_X9_offerMany_0 (by decide) (sx_manyL H k 0 0 (by omega) q))
def rf_far (h : LH) (a : Nat) : Int32 := if 0 ≤ rf_red h a then rf_red h a else -rf_red h a
theorem sx_far {n k : Nat} (H : RM h n k) {x : Int32} (a : Nat) (hx : x = nI a) (ha : a < k) : tf_Rt (d + 3) 35 [.ref 270, .int x] h (.int (rf_far h a)) h := by
  intro Q q
  unfold rf_far at q
  refine en_X9_farOf (by decide) (go_X9_farOf_0 (by decide) (sx_rred H a hx ha _ (go_X9_farOf_5 (by decide) ⟨fun c => go_X9_farOf_15 (by decide) (go_X9_farOf_16 (by decide) ?_), fun c => go_X9_farOf_16 (by decide) ?_⟩)))
  · rw [if_pos c] at q
    exact q
  · rw [if_neg c] at q
    exact q
end RF
